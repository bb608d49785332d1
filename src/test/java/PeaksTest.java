/** Promises 34 to 47. */
final class PeaksTest {
    public static void main(String[] args) {
        peak();
        interest();
        doubled();
        commonPay();
        bestBirths();
        lump();
        crosses();
        heir();
        rank();
        half();
        row();
        judge();
        lots();
        Due.end();
    }

    private static void peak() {
        PaidByTheUnborn x = Due.told("f0112;f0100;d000100;d100005;");
        Due.is("100, 104, 108, 111, 114, 116, 118, 119, 120, 121, 122, 122", x.peak(0, 100, 0), 122);
        Due.is("first", x.peak(0, 100, 1), 10);
        Due.is("in 3 YEARS", x.peak(0, 3, 0), 111);
        Due.is("at their end", x.peak(0, 3, 1), 3);
        Due.is("as it stays", x.peak(1, 9, 1), 0);
        Due.is("of now", x.peak(0, 0, 0), 100);
        Due.refused(x, "peak of nobody", () -> x.peak(2, -1, 2), -1);
        Due.refused(x, "peak below", () -> x.peak(0, -1, 2), -4);
        Due.refused(x, "peak above", () -> x.peak(0, 101, 2), -6);
        Due.refused(x, "peak other", () -> x.peak(0, 100, 2), -2);
    }

    private static void interest() {
        PaidByTheUnborn x = Due.told("f0220;f0110;d000100;d199990;");
        Due.is("none in none", x.interest(0, 0), 0);
        Due.is("5, 5, 5", x.interest(0, 3), 15);
        Due.is("not beyond 99999: 9, 1, 1", x.interest(1, 3), 11);
        Due.refused(x, "interest of nobody", () -> x.interest(2, -1), -1);
        Due.refused(x, "interest below", () -> x.interest(0, -1), -4);
        Due.refused(x, "interest above", () -> x.interest(0, 101), -6);
    }

    private static void doubled() {
        PaidByTheUnborn x = Due.told("f0100;f0100;f0100;f0100;d000100;d160000;d349999;r20;");
        Due.is("120, 144, 172, 206", x.doubled(0), 4);
        Due.is("not beyond", x.doubled(1), -9);
        Due.is("nothing does not", x.doubled(2), -9);
        Due.is("99998 and more", x.doubled(3), 4);
        x.debt(0, 4);
        Due.is("it bears nothing", x.doubled(0), -9);
        PaidByTheUnborn y = Due.told("f0100;d000100;r01;");
        Due.is("1 each YEAR up to the 100th", y.doubled(0), 100);
        PaidByTheUnborn z = Due.told("f0110;d000365;r01;");
        Due.is("the 101st is too late", z.doubled(0), -9);
        Due.refused(x, "doubled of nobody", () -> x.doubled(4), -1);
    }

    private static void commonPay() {
        PaidByTheUnborn x = Due.told("f0290;f0100;d000020;d100010;r00;");
        Due.is("all alike: 20, 10", x.commonPay(1, 0), -9);
        Due.is("3 HEADS pay 27", x.commonPay(1, 3), 9);
        Due.is("3 HEADS pay 24", x.commonPay(1, 6), 8);
        Due.is("now", x.commonPay(0, 30), 0);
        Due.is("in 2 YEARS", x.commonPay(2, 0), 5);
        Due.refused(x, "commonPay below", () -> x.commonPay(-1, 100000), -4);
        Due.refused(x, "commonPay below, v", () -> x.commonPay(101, -1), -4);
        Due.refused(x, "commonPay above", () -> x.commonPay(101, 0), -6);
        Due.refused(x, "commonPay above, v", () -> x.commonPay(0, 100000), -6);
    }

    private static void bestBirths() {
        PaidByTheUnborn x = Due.told("f0100;f1900;d000010;d100010;r00;");
        Due.is("of several the least", x.bestBirths(0, 0), 0);
        Due.is("each YEAR one", x.bestBirths(0, 4), 1);
        Due.is("19 or 20: 1 of each", x.bestBirths(1, 50), 0);
        x.years(4);
        Due.is("YEAR 5 alone: 10 by 2", x.bestBirths(0, 1), 1);
        Due.is("YEAR 5, 6", x.bestBirths(0, 2), 1);
        x.debt(0, 2);
        Due.is("2 by 2 in YEAR 5, of 1 and 5", x.bestBirths(0, 1), 1);
        x.years(4);
        Due.is("YEAR 9 alone, of 1, 3 and 9", x.bestBirths(0, 1), 1);
        Due.is("BIRTHS as they were", x.familyOf(0, 3), 0);
        Due.refused(x, "bestBirths of nobody", () -> x.bestBirths(2, -1), -1);
        Due.refused(x, "bestBirths below", () -> x.bestBirths(0, -1), -4);
        Due.refused(x, "bestBirths above", () -> x.bestBirths(0, 101), -6);
    }

    private static void lump() {
        PaidByTheUnborn x = Due.told("f0110;d000100;r10;");
        Due.is("71, 39, 3, 0", x.lump(0, 38), 4);
        Due.is("never", x.lump(0, 0), -9);
        Due.is("at once", x.lump(0, 9999), 1);
        Due.is("109 less 109", x.lump(0, 109), 1);
        Due.is("109 less 108", x.lump(0, 108), 2);
        x.debt(0, 0);
        Due.is("now", x.lump(0, 0), 0);
        Due.refused(x, "lump of nobody", () -> x.lump(1, -1), -1);
        Due.refused(x, "lump below", () -> x.lump(0, -1), -4);
        Due.refused(x, "lump above", () -> x.lump(0, 10000), -6);
    }

    private static void crosses() {
        PaidByTheUnborn x = Due.told("f0120;f0200;d000014;d100019;r00;");
        Due.is("14, 12, 10, 8 and 10", x.crosses(0, 1), 3);
        Due.is("less from now on", x.crosses(1, 0), 0);
        PaidByTheUnborn y = Due.told("f0100;f0100;");
        Due.is("never", y.crosses(0, 1), -9);
        PaidByTheUnborn z = Due.told("f0110;f0100;d000599;d100500;r00;");
        Due.is("behind 100", z.crosses(0, 1), 100);
        z.debt(0, 600);
        Due.is("behind 101", z.crosses(0, 1), -9);
        Due.refused(x, "crosses of nobody", () -> x.crosses(2, 0), -1);
        Due.refused(x, "crosses with nobody", () -> x.crosses(0, -1), -1);
        Due.refused(x, "crosses of one", () -> x.crosses(1, 1), -1);
    }

    private static void heir() {
        PaidByTheUnborn x = Due.told("f0200;f0500;f0300;d000010;d100100;d200011;");
        Due.is("41 of two, 71 of three", x.heir(1), 25);
        Due.is("108 of five, 14 of three", x.heir(0), 22);
        x.debt(1, 3);
        Due.is("2 and 1, 1 left over to the first", x.heir(1), 6);
        x.debt(2, 99999);
        Due.is("99999 at most", x.heir(1), 33333);
        Due.is("nothing is changed", x.count(5), 100012);
        Due.is("there are none", Due.told("f0100;d000007;").heir(0), -9);
        Due.refused(x, "heir of nobody", () -> x.heir(3), -1);
    }

    private static void rank() {
        PaidByTheUnborn x = Due.told("f0200;f0100;f0300;f0100;d000019;d100010;d200031;d300010;");
        int[] due = {2, 0, 1, 3, -9};
        for (int i = 0; i < due.length; i++) Due.is("rank " + i, x.rank(i), due[i]);
        Due.is("far above", x.rank(Integer.MAX_VALUE), -9);
        Due.refused(x, "rank below", () -> x.rank(-1), -4);
    }

    private static void half() {
        PaidByTheUnborn x = Due.told("f0110;f0100;d000020;d100009;r00;");
        Due.is("29 to 14", x.half(), 15);
        x.debt(1, 21);
        Due.is("41 to 21", x.half(), -9);
        x.debt(1, 20);
        Due.is("40 to 20", x.half(), 20);
        x.debt(1, 0);
        x.debt(0, 200);
        Due.is("behind 100", x.half(), 100);
        x.debt(0, 201);
        Due.is("behind 101", x.half(), -9);
    }

    private static void row() {
        PaidByTheUnborn x = new PaidByTheUnborn();
        Due.is("one", x.row(0), 1);
        Due.is("two", x.row(99), 2);
        Due.refused(x, "row below", () -> x.row(-1), -4);
        Due.refused(x, "row above", () -> x.row(100), -6);
        for (int k = 3; k <= 12; k++) Due.is("more", x.row(k), k);
        Due.refused(x, "13", () -> x.row(1), -6);
        Due.is("cleared", x.clear(), 12);
        Due.is("cleared already", x.clear(), 0);
        Due.is("anew", x.row(1), 1);
    }

    private static void judge() {
        PaidByTheUnborn x = Due.told("f0232;f0100;d000100;d199998;");
        tell(x, 50, 50, 33, 31, 22);
        Due.refused(x, "judge nobody", () -> x.judge(2), -1);
        Due.is("all is so", x.judge(0), -9);
        Due.is("the ROW has none", x.count(8), 0);
        tell(x, 50, 50, 33, 30, 22);
        Due.is("the fourth", x.judge(0), 3);
        Due.is("the ROW has none, too", x.count(8), 0);
        tell(x, 49);
        Due.is("the first", x.judge(0), 0);
        Due.is("without a ROW", x.judge(0), -9);
        tell(x, 99, 99, 98);
        Due.is("99 for 99 or more", x.judge(1), 2);
    }

    private static void tell(PaidByTheUnborn x, int... row) {
        for (int v : row) x.row(v);
    }

    private static void lots() {
        PaidByTheUnborn x = Due.told("f0100;d000100;");
        int z = 1;
        long debts = 0;
        long free = 0;
        for (int n = 1; n <= 20; n++) {
            z = z * 1103515245 + 12345;
            int rate = (z & 0x7fffffff) / 65536 % 10;
            z = z * 1103515245 + 12345;
            int pays = (z & 0x7fffffff) / 65536 % 10;
            long debt = 100;
            for (int k = 0; k < 50; k++) debt = Math.max(0, Math.min(99999, debt + debt * rate / 100) - pays);
            debts += debt;
            if (debt == 0) free++;
            Due.is("LOTS of " + n, x.lots(n, 1, 0), debts);
            Due.is("how many of " + n, x.lots(n, 1, 1), free);
        }
        Due.holds("some owe, some do not", debts > 0 && free > 0 && free < 20);
        Due.is("nothing is changed", x.count(2) + x.count(3) + x.count(5), 105);
        Due.refused(x, "lots below", () -> x.lots(0, 1, 2), -4);
        Due.refused(x, "lots above", () -> x.lots(21, 1, 2), -6);
        Due.refused(x, "lots other", () -> x.lots(20, 1, 2), -2);
    }
}
