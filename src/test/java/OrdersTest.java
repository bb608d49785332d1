/** Promises 30 to 33, 48 and 49. */
final class OrdersTest {
    public static void main(String[] args) {
        oldest();
        order();
        orderRefused();
        jubilee();
        fair();
        image();
        imageOfOrder();
        Due.end();
    }

    private static void oldest() {
        PaidByTheUnborn x = Due.three();
        Due.is("none is", x.oldest(0), -9);
        Due.is("none is last", x.oldest(1), -9);
        Due.tell(x, "b4;b1;");
        x.treasury();
        x.builds(5);
        Due.is("OLDEST", x.oldest(0), 4);
        Due.is("LAST", x.oldest(1), 5);
        x.back();
        Due.is("LAST ahead of it", x.oldest(1), 1);
        x.builds(0);
        Due.is("LAST anew", x.oldest(1), 0);
        Due.is("OLDEST still", x.oldest(0), 4);
        Due.refused(x, "oldest other", () -> x.oldest(2), -2);
        Due.refused(x, "oldest below", () -> x.oldest(-1), -2);
    }

    private static void order() {
        PaidByTheUnborn x = Due.told("f0150;w00010;w00004;w00007;r00;");
        Due.is("10, 5 and 4, 4 and 7 less 5", x.order(-1), 6);
        int[] first = {0, 1, 2};
        for (int i = 0; i < 3; i++) Due.is("the order's " + i, x.order(i), first[i]);
        Due.is("there is no more", x.order(3), -9);
        x.rate(20);
        Due.is("0, 3, 10: with interest the dearest comes last", x.order(-1), 10);
        Due.is("of several the first", x.order(0), 1);
        int[] dear = {1, 2, 0};
        PaidByTheUnborn y = Due.told("f0100;w00300;w00100;w00200;r10;");
        for (int i = 0; i < 3; i++) Due.is("the dear order's " + i, y.order(i), dear[i]);
        Due.is("133, 242 and 330", y.order(-1), 705);
        y.builds(2);
        Due.is("what is BUILT is not in it", y.order(0), 1);
        Due.is("nor behind", y.order(1), 0);
        Due.is("nor is there more", y.order(2), -9);
        Due.is("nothing is changed", y.count(2) + y.count(6), 4);
        y.builds(0);
        y.builds(1);
        Due.is("none is left", y.order(0), -9);
        Due.is("all as now", y.order(-1), 600);
    }

    private static void orderRefused() {
        PaidByTheUnborn x = Due.three();
        Due.refused(x, "more than 5", () -> x.order(-1), -3);
        Due.refused(x, "below", () -> x.order(-2), -4);
        x.builds(0);
        Due.is("5 are not more", x.order(5), -9);
        Due.is("far above", x.order(Integer.MAX_VALUE), -9);
    }

    private static void jubilee() {
        PaidByTheUnborn x = Due.told("f0190;f0100;f0100;d000060;d100050;d200050;r00;");
        Due.is("60 now", x.jubilee(0), 0);
        Due.is("behind 2 it is 42", x.jubilee(2), 1);
        Due.is("nothing is changed", x.count(5), 160);
        Due.is("nobody", new PaidByTheUnborn().jubilee(0), -9);
        Due.refused(x, "jubilee below", () -> x.jubilee(-1), -4);
        Due.refused(x, "jubilee above", () -> x.jubilee(101), -6);
    }

    private static void fair() {
        PaidByTheUnborn x = Due.told("f0200;f0300;f0100;d000019;d100028;d200004;");
        Due.is("10, 10 and 4", x.fair(0), 6);
        Due.is("of several the least", x.fair(1), 0);
        x.debt(1, 31);
        Due.is("11", x.fair(0), 7);
        Due.is("owed by", x.fair(1), 1);
        PaidByTheUnborn y = Due.told("f0200;d000019;");
        Due.is("one alone", y.fair(0), 0);
        Due.is("owes most", y.fair(1), 0);
        Due.refused(x, "fair other", () -> x.fair(2), -2);
        Due.refused(x, "fair below", () -> x.fair(-1), -2);
    }

    private static void image() {
        PaidByTheUnborn x = Due.told("f0111;w00010;d000100;");
        Due.refused(x, "no image", () -> x.restore(), -3);
        x.years(3);
        Due.is("taken", x.image(), 3);
        long[] ahead = counts(x);
        x.years(2);
        x.builds(0);
        x.rate(9);
        x.family(1, 1, 1);
        x.work(5, 5, 5);
        x.row(7);
        x.feed('r');
        x.rate(-1);
        Due.is("restored", x.restore(), 3);
        long[] behind = counts(x);
        for (int k = 0; k < 7; k++) Due.is("count " + k, behind[k], ahead[k]);
        Due.is("letters stay", behind[7], 1);
        Due.is("the ROW stays", behind[8], 1);
        Due.is("none can be TAKEN BACK", behind[9], 0);
        Due.is("REFUSALS stay", behind[14], 1);
        Due.is("the work is not BUILT", x.workOf(0, 4), 0);
        x.years(1);
        Due.is("restored again", x.restore(), 3);
        x.years(4);
        Due.is("taken again", x.image(), 7);
        x.years(1);
        Due.is("restored the later", x.restore(), 7);
    }

    private static void imageOfOrder() {
        PaidByTheUnborn x = Due.told("w00010;w00010;b1;b0;");
        x.image();
        PaidByTheUnborn y = Due.told("w00010;w00010;");
        y.image();
        y.builds(0);
        y.restore();
        Due.is("none is BUILT", y.oldest(0), -9);
        y.builds(1);
        y.builds(0);
        Due.is("another order", y.oldest(0), 1);
        x.work(0, 0, 1);
        x.builds(2);
        x.restore();
        Due.is("OLDEST", x.oldest(0), 1);
        Due.is("LAST", x.oldest(1), 0);
    }

    private static long[] counts(PaidByTheUnborn x) {
        long[] counts = new long[17];
        for (int k = 0; k < counts.length; k++) counts[k] = x.count(k);
        return counts;
    }
}
