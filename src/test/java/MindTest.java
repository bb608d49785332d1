/** Promises 13 to 29. */
final class MindTest {
    public static void main(String[] args) {
        behind();
        solvent();
        firsts();
        highest();
        buildings();
        oneMore();
        shares();
        mergers();
        children();
        treaty();
        signature();
        whoBuilt();
        chances();
        Due.end();
    }

    private static void behind() {
        PaidByTheUnborn x = Due.told("f0232;f0100;d000100;d100010;");
        int[] debts = {100, 99, 97, 92, 87};
        int[] heads = {2, 2, 3, 3, 4};
        int[] owed = {50, 50, 33, 31, 22};
        for (int n = 0; n < debts.length; n++) {
            Due.is("DEBT behind " + n, x.behind(0, n, 0), debts[n]);
            Due.is("HEADS behind " + n, x.behind(0, n, 1), heads[n]);
            Due.is("a head owes behind " + n, x.behind(0, n, 2), owed[n]);
            Due.is("ALL DEBTS behind " + n, x.all(n), debts[n] + 10);
        }
        Due.is("it is in mind alone", x.count(2) + x.count(5), 110);
        Due.is("with 0 interest of small DEBTS", x.behind(1, 100, 0), 10);
        Due.refused(x, "behind nobody", () -> x.behind(2, -1, 3), -1);
        Due.refused(x, "behind below", () -> x.behind(0, -1, 3), -4);
        Due.refused(x, "behind above", () -> x.behind(0, 101, 3), -6);
        Due.refused(x, "behind other", () -> x.behind(0, 100, 3), -2);
        Due.refused(x, "all below", () -> x.all(-1), -4);
        Due.refused(x, "all above", () -> x.all(101), -6);
    }

    private static void solvent() {
        PaidByTheUnborn x = Due.told("f0120;f0120;f0120;f0100;d000100;d100005;d200006;d300001;r00;");
        Due.is("50 YEARS", x.solvent(0), 50);
        Due.is("3 YEARS, up", x.solvent(1), 3);
        Due.is("3 YEARS", x.solvent(2), 3);
        Due.is("never", x.solvent(3), -9);
        Due.is("the first of several", x.first(0), 1);
        x.debt(0, 200);
        Due.is("100 YEARS", x.solvent(0), 100);
        Due.is("it alone, so late", Due.told("f0120;d000200;r00;").first(0), 0);
        x.debt(0, 201);
        Due.is("101 are too many", x.solvent(0), -9);
        x.debt(0, 0);
        Due.is("now already", x.solvent(0), 0);
        Due.is("that is first", x.first(0), 0);
        Due.refused(x, "solvent nobody", () -> x.solvent(4), -1);
        Due.refused(x, "solvent nobody below", () -> x.solvent(-1), -1);
    }

    private static void firsts() {
        PaidByTheUnborn x = Due.told("f0100;f0110;f0100;f0190;d000020;d100020;d200019;d300999;r05;");
        Due.is("none is so", Due.told("f0100;d000001;").first(0), -9);
        Due.is("GROWS", x.first(1), 9);
        Due.is("not STUCK", x.first(2), -9);
        x.debt(2, 99999);
        Due.is("STUCK now", x.first(2), 0);
        x.debt(2, 95000);
        Due.is("STUCK behind two", x.first(2), 2);
        x.debt(2, 99999);
        Due.is("what is STUCK does not grow", x.first(1), 9);
        Due.refused(x, "first other", () -> x.first(3), -2);
        Due.refused(x, "first other below", () -> x.first(-1), -2);
    }

    private static void highest() {
        PaidByTheUnborn x = Due.told("f0250;f0100;f0100;d000100;d200001;");
        Due.is("HIGHEST RATE: 100, 98 and 8, ..", x.highest(0, 10, 0), 0);
        Due.is("a YEAR more", x.highest(0, 11, 0), 2);
        Due.is("with no DEBT", x.highest(1, 100, 0), 20);
        Due.is("with none", x.highest(2, 100, 0), -9);
        Due.is("LEAST PAY", x.highest(0, 10, 1), 7);
        Due.is("LEAST PAY in a YEAR", x.highest(0, 1, 1), -9);
        Due.is("LEAST PAY of nothing", x.highest(1, 0, 1), 0);
        Due.is("LEAST PAY of 1", x.highest(2, 1, 1), 1);
        Due.is("nothing is changed", x.familyOf(0, 2) + x.count(3), 10);
        Due.refused(x, "highest nobody", () -> x.highest(3, 101, 2), -1);
        Due.refused(x, "highest below", () -> x.highest(0, -1, 2), -4);
        Due.refused(x, "highest above", () -> x.highest(0, 101, 2), -6);
        Due.refused(x, "highest other", () -> x.highest(0, 100, 2), -2);
    }

    private static void buildings() {
        PaidByTheUnborn x = Due.told("f0100;f0100;w00010;w00020;w00010;w00040;r00;");
        Due.is("all of them", x.building(0, 40, 0), 15);
        Due.is("their COST", x.building(0, 40, 1), 80);
        Due.is("the least bits of 30", x.building(0, 15, 0), 3);
        Due.is("30", x.building(0, 19, 1), 30);
        Due.is("none", x.building(100, 4, 0), 0);
        Due.is("for 0", x.building(100, 4, 1), 0);
        x.builds(0);
        Due.is("what is BUILT is in no set", x.building(0, 20, 0), 6);
        Due.is("its COST", x.building(0, 20, 1), 30);
        Due.is("not even with none", x.building(0, 4, 0), -9);
        Due.is("nor its COST", x.building(0, 4, 1), -9);
        x.rate(20);
        Due.is("behind 100 YEARS: 5 and 1 each YEAR", x.building(5, 9, 0), -9);
        Due.is("behind 4", x.building(4, 9, 0), 0);
        x.rate(0);
        PaidByTheUnborn pens = Due.told("f0100;f0100;w40010;w40010;");
        Due.is("by numbers: a pen each", pens.building(0, 20, 0), 3);
        PaidByTheUnborn nobody = Due.told("w00010;w30001;");
        Due.is("without FAMILIES", nobody.building(3, 0, 0), 3);
        Due.refused(x, "building below", () -> x.building(-1, 1000, 2), -4);
        Due.refused(x, "building below, v", () -> x.building(101, -1, 2), -4);
        Due.refused(x, "building above", () -> x.building(101, 0, 2), -6);
        Due.refused(x, "building above, v", () -> x.building(0, 1000, 2), -6);
        Due.refused(x, "building other", () -> x.building(0, 999, 2), -2);
    }

    private static void oneMore() {
        PaidByTheUnborn x = Due.told("f0190;f0100;d000000;d100050;w40010;w20010;w00010;w00010;r10;");
        Due.is("now: the cheapest of several", x.oneMore(0), 2);
        Due.is("behind 3: a pen's 20 is paid by the first", x.oneMore(3), 0);
        x.builds(2);
        x.debt(0, 0);
        Due.is("another", x.oneMore(0), 3);
        Due.is("nothing is BUILT by it", x.count(6), 4);
        Due.is("none is left", Due.told("w00001;b0;").oneMore(0), -9);
        Due.refused(x, "oneMore below", () -> x.oneMore(-1), -4);
        Due.refused(x, "oneMore above", () -> x.oneMore(101), -6);
    }

    private static void shares() {
        int[][] due = {{34, 33, 33}, {32, 56, 15}, {0, 200, 0}, {34, 0, 17}, {0, 197, 0}, {63, 109, 31}};
        PaidByTheUnborn x = Due.three();
        for (int w = 0; w < 6; w++) {
            for (int f = 0; f < 3; f++) Due.is("share " + w + " of " + f, x.share(w, f), due[w][f]);
        }
        x.builds(4);
        Due.is("a pen's, BUILT, is now another's", x.share(4, 2), 197);
        Due.is("and no more the first's", x.share(4, 1), 0);
        Due.refused(x, "share of no work", () -> x.share(6, 0), -1);
        Due.refused(x, "share of nobody", () -> x.share(0, 3), -1);
        PaidByTheUnborn y = Due.told("f0100;f0110;d000500;d100005;w00200;w00010;r10;");
        Due.is("100 less, and 10 of each 100", y.pulledDown(0, 0, 1), 110);
        Due.is("now", y.pulledDown(0, 0, 0), 100);
        Due.is("0 at least", y.pulledDown(0, 1, 0), 5);
        Due.is("all of it is paid either way", y.pulledDown(1, 1, 9), 0);
        Due.refused(y, "no such work", () -> y.pulledDown(2, 0, -1), -1);
        Due.refused(y, "no such family", () -> y.pulledDown(0, 2, 101), -1);
        Due.refused(y, "pulledDown below", () -> y.pulledDown(0, 0, -1), -4);
        Due.refused(y, "pulledDown above", () -> y.pulledDown(0, 0, 101), -6);
    }

    private static void mergers() {
        PaidByTheUnborn x = Due.told("f0210;f1400;f0600;f0109;d000090;d100140;d200200;d390000;r00;");
        Due.is("230 of 16", x.merger(0, 1, 0), 15);
        Due.is("16 paid each YEAR", x.merger(0, 1, 2), 13);
        Due.is("with the other's PAYS nothing is", x.merger(1, 0, 2), 15);
        Due.is("20 HEADS", x.merger(2, 1, 0), 17);
        x.family(20, 0, 0);
        x.debt(4, 20000);
        Due.is("at most", x.merger(3, 4, 0), 5000);
        Due.is("20 HEADS at most", x.merger(1, 4, 0), 1007);
        Due.is("none is better off", x.bestMerger(0), -9);
        Due.is("5 is less than 35 and 10, and than 27", x.bestMerger(10), 1);
        PaidByTheUnborn y = Due.told("f0110;f0100;f0100;d000060;d100050;d200050;r00;");
        Due.is("of several the first", y.bestMerger(20), 1);
        PaidByTheUnborn z = Due.told("f0100;f0110;d000050;d100060;r00;");
        Due.is("the lesser's PAYS are theirs", z.bestMerger(20), -9);
        Due.is("of one there is none", Due.told("f0110;").bestMerger(1), -9);
        Due.refused(x, "merger of nobody", () -> x.merger(0, 5, -1), -1);
        Due.refused(x, "merger for nobody", () -> x.merger(5, 0, -1), -1);
        Due.refused(x, "merger of one", () -> x.merger(1, 1, 101), -1);
        Due.refused(x, "merger below", () -> x.merger(0, 1, -1), -4);
        Due.refused(x, "merger above", () -> x.merger(0, 1, 101), -6);
        Due.refused(x, "bestMerger below", () -> x.bestMerger(-1), -4);
        Due.refused(x, "bestMerger above", () -> x.bestMerger(101), -6);
    }

    private static void children() {
        PaidByTheUnborn x = Due.told("f0600;f0401;f0302;d000100;d100050;d200037;r00;");
        Due.is("100 by 6", x.child(0, 0), 50);
        Due.is("as 50 over 3", x.child(0, 1), 3);
        Due.is("37 by 3", x.child(2, 0), 37);
        Due.is("cheapest", x.cheapest(0, 0), 2);
        x.debt(0, 74);
        Due.is("of several the least", x.cheapest(100, 0), 0);
        x.debt(1, 0);
        Due.is("0", x.child(1, 0), 0);
        Due.is("over 1", x.child(1, 1), 1);
        Due.is("born owing nothing", x.cheapest(3, 1), 3);
        Due.is("up to 20 HEADS", x.cheapest(100, 1), 16);
        PaidByTheUnborn y = Due.told("f0131;d000010;r00;");
        Due.is("10, 7, 1 and then nothing", y.cheapest(3, 1), 1);
        Due.refused(x, "child of nobody", () -> x.child(3, 2), -1);
        Due.refused(x, "child of other", () -> x.child(0, 2), -2);
        Due.is("a long refusal", x.child(-1, 0), 4000000000000000001L);
        Due.is("another", x.child(0, -1), 4000000000000000002L);
        Due.refused(x, "cheapest below", () -> x.cheapest(-1, 2), -4);
        Due.refused(x, "cheapest above", () -> x.cheapest(101, 2), -6);
        Due.refused(x, "cheapest other", () -> x.cheapest(0, 2), -2);
    }

    private static void treaty() {
        PaidByTheUnborn x = Due.told("f0150;f0100;f0190;f0110;d000200;d100010;d200200;d399999;r10;");
        Due.is("paying 6 of 200 saves, 10 bears 10 either way", x.treaty(0, 1, 10), 10);
        Due.is("two YEARS on it bears 14 or 12", x.treaty(0, 1, 12), 11);
        Due.is("9 are 9", x.treaty(2, 0, 10), 1);
        Due.is("the other first", x.treaty(0, 2, 10), 10);
        Due.is("the greatest DEBT stays: what is paid is more", x.treaty(3, 2, 10), 0);
        Due.is("in no YEARS", x.treaty(0, 1, 0), 0);
        PaidByTheUnborn y = Due.told("f2050;f0100;d000500;r10;");
        Due.is("nothing is paid where nothing is owed", y.treaty(0, 1, 10), 10);
        x.rate(0);
        Due.is("without interest", x.treaty(0, 1, 100), 0);
        Due.refused(x, "treaty of nobody", () -> x.treaty(0, 4, -1), -1);
        Due.refused(x, "treaty for nobody", () -> x.treaty(-1, 0, -1), -1);
        Due.refused(x, "treaty of one", () -> x.treaty(0, 0, 101), -1);
        Due.refused(x, "treaty below", () -> x.treaty(0, 1, -1), -4);
        Due.refused(x, "treaty above", () -> x.treaty(0, 1, 101), -6);
    }

    private static void signature() {
        PaidByTheUnborn x = Due.three();
        int[] heads = {7, 13, 6, 7, 6, 0};
        for (int w = 0; w < 6; w++) {
            Due.is("HEADS that sign " + w, x.signature(w, 0), heads[w]);
            Due.is("whether more than half " + w, x.signature(w, 1), heads[w] > 6 ? 1 : 0);
        }
        PaidByTheUnborn y = Due.told("f0100;f0100;w40001;");
        Due.is("one of two", y.signature(0, 0), 1);
        Due.is("half is not more", y.signature(0, 1), 0);
        Due.refused(x, "signature for no work", () -> x.signature(6, 2), -1);
        Due.refused(x, "signature of other", () -> x.signature(0, 2), -2);
    }

    private static void whoBuilt() {
        PaidByTheUnborn x = Due.told("f0100;f0100;d000077;w00010;w00020;w00010;w20002;b0;");
        Due.refused(x, "no ROW", () -> x.whoBuilt(0), -3);
        x.row(15);
        Due.refused(x, "a short ROW", () -> x.whoBuilt(1), -3);
        x.row(15);
        Due.is("sets", x.whoBuilt(0), 2);
        Due.is("the least", x.whoBuilt(1), 3);
        Due.is("the ROW stays", x.count(8), 2);
        Due.refused(x, "whoBuilt other", () -> x.whoBuilt(2), -2);
        x.row(1);
        Due.refused(x, "a long ROW", () -> x.whoBuilt(0), -3);
        Due.refused(x, "a long ROW, other", () -> x.whoBuilt(-1), -2);
        x.clear();
        x.row(0);
        x.row(1);
        Due.is("none", x.whoBuilt(0), 0);
        Due.is("nor a least", x.whoBuilt(1), -9);
        x.clear();
        x.row(4);
        x.row(0);
        Due.is("a war's", x.whoBuilt(1), 8);
        PaidByTheUnborn y = Due.told("f0100;w00099;w00100;w00001;");
        y.row(99);
        Due.is("99 for 99 or more", y.whoBuilt(0), 6);
        Due.is("its least", y.whoBuilt(1), 1);
    }

    private static void chances() {
        PaidByTheUnborn x = Due.told("f0101;f1900;d000006;d100021;r00;");
        Due.is("6 by 1, none born for sure", x.births(0, 0, 5, 3, 0), 0);
        Due.is("over 1", x.births(0, 0, 5, 3, 1), 1);
        Due.is("for sure", x.births(0, 0, 6, 3, 0), 1);
        Due.is("with one or more of two: 1 less 4 over 9", x.births(0, 2, 3, 3, 0), 5);
        Due.is("over 9", x.births(0, 2, 3, 3, 1), 9);
        Due.is("with both", x.births(0, 2, 2, 3, 0), 1);
        Due.is("over 9, too", x.births(0, 2, 2, 3, 1), 9);
        Due.is("never", x.births(0, 8, 0, 20, 0), 0);
        Due.is("never, over 1", x.births(0, 8, 0, 20, 1), 1);
        Due.is("5 or more of 8: 394365 by 5", x.births(0, 8, 1, 20, 0), 78873);
        Due.is("over 20 to the 8th by 5", x.births(0, 8, 1, 20, 1), 5120000000L);
        Due.is("20 HEADS at most", x.births(1, 8, 1, 2, 0), 0);
        Due.is("2 each for sure", x.births(1, 8, 2, 2, 0), 1);
        PaidByTheUnborn y = Due.told("f0110;d000006;r10;");
        Due.is("a head born pays from the next YEAR on: 3 of two, 4 of two", y.births(0, 2, 2, 4, 0), 7);
        Due.is("over 16", y.births(0, 2, 2, 4, 1), 16);
        Due.is("3 of three", y.births(0, 2, 1, 4, 0), 1);
        Due.refused(x, "births of nobody", () -> x.births(2, -1, -1, 1, 2), -1);
        Due.refused(x, "births below", () -> x.births(0, -1, 1000, 21, 2), -4);
        Due.refused(x, "v below", () -> x.births(0, 9, -1, 21, 2), -4);
        Due.refused(x, "t below", () -> x.births(0, 9, 1000, 1, 2), -4);
        Due.refused(x, "births above", () -> x.births(0, 9, 0, 2, 2), -6);
        Due.refused(x, "v above", () -> x.births(0, 8, 1000, 2, 2), -6);
        Due.refused(x, "t above", () -> x.births(0, 8, 999, 21, 2), -6);
        Due.refused(x, "births other", () -> x.births(0, 8, 999, 20, 2), -2);
        Due.is("a long refusal", x.births(0, 9, 0, 2, 0), 4000000000000000006L);
    }
}
