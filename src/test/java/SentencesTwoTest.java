/** Chapter II, sentence by sentence where one tells a boundary. */
final class SentencesTwoTest {
    public static void main(String[] args) {
        yearsOn();
        headsInMind();
        solvent();
        firstSolvent();
        grows();
        stuck();
        highestRate();
        leastPay();
        buildingUpToV();
        buildingOfSeveral();
        buildingNotEvenWithNone();
        oneMore();
        share();
        pulledDown();
        mergerAtMost();
        mergerOfTheFirst();
        bestMerger();
        child();
        cheapest();
        foughtOver();
        treatyAtMost();
        treatyOfEqual();
        signature();
        whoBuilt();
        whoBuilt99();
        birthsInNoYear();
        birthsUpTo20();
        birthsInLowestTerms();
        rowUpTo12();
        judged();
        judgedAll();
        lotsFromNow();
        draws();
        lotsOfNobody();
        Due.end();
    }

    private static void row(PaidByTheUnborn x, int... row) {
        for (int v : row) x.row(v);
    }

    /** "In mind, n YEARS on (0 .. 100): DEBT of one, HEADS, what a head owes (DEBT by HEADS, up); ALL DEBTS". */
    private static void yearsOn() {
        PaidByTheUnborn x = Due.told("f0119;f0700;d010000;d109900;r00;");
        Due.is("none on", x.behind(0, 0, 0), 10000);
        Due.is("100 on, with one HEAD more in each 9 YEARS", x.behind(0, 100, 0), 10000 - 9 * 66 - 12);
        Due.is("11 are born", x.behind(0, 100, 1), 12);
        Due.is("9394 by 12, up", x.behind(0, 100, 2), 783);
        Due.is("9900 by 7, up", x.behind(1, 100, 2), 1415);
        Due.is("ALL DEBTS now", x.all(0), 19900);
        Due.is("ALL DEBTS 100 on", x.all(100), 9394 + 9900);
        Due.is("a YEAR more", x.all(101), -6);
        Due.is("a YEAR less", x.all(-1), -4);
        x.debt(1, 9905);
        Due.is("one less than 1415 each goes up to it", x.behind(1, 0, 2), 1415);
        x.debt(1, 9906);
        Due.is("one more goes up", x.behind(1, 0, 2), 1416);
        x.debt(1, 1);
        Due.is("1 by 7, up", x.behind(1, 0, 2), 1);
        x.debt(1, 0);
        Due.is("nothing by 7", x.behind(1, 0, 2), 0);
        Due.is("nobody's ALL DEBTS", new PaidByTheUnborn().all(100), 0);
    }

    private static void headsInMind() {
        PaidByTheUnborn x = Due.told("f1901;d099998;r20;");
        Due.is("20 HEADS", x.behind(0, 1, 1), 20);
        Due.is("20 HEADS at most", x.behind(0, 100, 1), 20);
        Due.is("99999 at most", x.behind(0, 100, 0), 99999);
        Due.is("what a head owes of it", x.behind(0, 100, 2), 5000);
        PaidByTheUnborn y = Due.told("f0105;y03;");
        Due.is("in YEAR 4", y.behind(0, 1, 1), 1);
        Due.is("in YEAR 5", y.behind(0, 2, 1), 2);
        Due.is("now", y.behind(0, 0, 1), 1);
    }

    /** "SOLVENT: the least n (0 .. 100) behind which one owes nothing; -9". */
    private static void solvent() {
        PaidByTheUnborn x = Due.told("f0110;f0110;f0100;f0110;d000100;d100101;d200001;r00;");
        Due.is("behind 100", x.solvent(0), 100);
        Due.is("behind 101", x.solvent(1), -9);
        Due.is("never", x.solvent(2), -9);
        Due.is("now", x.solvent(3), 0);
        x.debt(0, 1);
        Due.is("behind 1", x.solvent(0), 1);
        PaidByTheUnborn y = Due.told("f0113;d000005;r00;y01;");
        Due.is("4 less 1, less 1 and one is born in YEAR 3, less 2", y.solvent(0), 3);
        y.debt(0, 5);
        Due.is("of 5 one YEAR more", y.solvent(0), 4);
    }

    /** "the FAMILY that is so first, of several the least; -9". */
    private static void firstSolvent() {
        PaidByTheUnborn x = Due.told("f0110;f0110;f0110;d000101;d100100;d200100;r00;");
        Due.is("of two behind 100 the least", x.first(0), 1);
        x.debt(1, 101);
        Due.is("the one behind 100", x.first(0), 2);
        x.debt(2, 101);
        Due.is("none", x.first(0), -9);
        x.debt(2, 0);
        Due.is("the one that is so now", x.first(0), 2);
        x.debt(0, 0);
        Due.is("of two the least", x.first(0), 0);
        Due.is("of nobody", new PaidByTheUnborn().first(0), -9);
    }

    /** "GROWS: FAMILIES (bits) whose DEBT is more behind the next YEAR than now". */
    private static void grows() {
        PaidByTheUnborn x = Due.told("f0110;f0110;f0110;f0100;f0100;d000019;d100020;d200040;d300019;d400020;");
        Due.is("1 less, as it was, 1 more, as it was, 1 more", x.first(1), 4 + 16);
        for (int f = 0; f < 5; f++) x.debt(f, 99000);
        Due.is("all", x.first(1), 31);
        x.rate(0);
        Due.is("none", x.first(1), 0);
        x.rate(5);
        for (int f = 0; f < 5; f++) x.debt(f, 99999);
        Due.is("what can be no more does not grow", x.first(1), 0);
        Due.is("of nobody", new PaidByTheUnborn().first(1), 0);
        PaidByTheUnborn y = Due.told("f0191;d000200;");
        Due.is("10 more and 9 less next YEAR, though it is less behind two", y.first(1), 1);
        y.debt(0, 180);
        Due.is("9 more and 9 less", y.first(1), 0);
    }

    /** "STUCK: the first n (0 .. 100) behind which DEBT of some FAMILY is 99999; -9". */
    private static void stuck() {
        PaidByTheUnborn x = Due.told("f0100;f0100;d000769;");
        Due.is("behind 101", x.first(2), -9);
        x.debt(1, 770);
        Due.is("behind 100, the other", x.first(2), 100);
        x.debt(0, 99998);
        Due.is("behind 1", x.first(2), 1);
        x.debt(1, 99999);
        Due.is("now", x.first(2), 0);
        x.rate(0);
        x.debt(1, 99998);
        Due.is("one less is not", x.first(2), -9);
        Due.is("what is paid down again is not", Due.told("f0110;d099990;").first(2), -9);
        Due.is("of nobody", new PaidByTheUnborn().first(2), -9);
    }

    /** "HIGHEST RATE (0 .. 20) with which one owes nothing behind n YEARS; -9". */
    private static void highestRate() {
        PaidByTheUnborn x = Due.told("f0190;f0190;f0190;f0100;d000008;d100009;d200010;r07;");
        Due.is("8 at 20 are 9", x.highest(0, 1, 0), 20);
        Due.is("9 at 12 are 10, at 11 they are 9", x.highest(1, 1, 0), 11);
        Due.is("10 are too many", x.highest(2, 1, 0), -9);
        Due.is("in no YEAR", x.highest(0, 0, 0), -9);
        Due.is("in no YEAR with nothing", x.highest(3, 0, 0), 20);
        Due.is("in 100 YEARS with nothing", x.highest(3, 100, 0), 20);
        x.debt(1, 900);
        Due.is("9 of 900 a YEAR at 0 alone", x.highest(1, 100, 0), 0);
        x.debt(1, 901);
        Due.is("9 of 901 a YEAR", x.highest(1, 100, 0), -9);
        Due.is("RATE is as it was", x.count(3), 7);
    }

    /** "LEAST PAY (0 .. 9) likewise". */
    private static void leastPay() {
        PaidByTheUnborn x = Due.told("f0150;f0150;f0150;f0150;d000009;d100010;d200001;r00;");
        Due.is("9", x.highest(0, 1, 1), 9);
        Due.is("10 are too many", x.highest(1, 1, 1), -9);
        Due.is("1", x.highest(2, 1, 1), 1);
        Due.is("nothing", x.highest(3, 1, 1), 0);
        Due.is("nothing, now", x.highest(3, 0, 1), 0);
        Due.is("1, now", x.highest(2, 0, 1), -9);
        x.debt(0, 900);
        Due.is("900 in 100 YEARS", x.highest(0, 100, 1), 9);
        x.debt(0, 800);
        Due.is("800 in 100 YEARS", x.highest(0, 100, 1), 8);
        Due.is("PAYS are as they were", x.familyOf(0, 2), 5);
    }

    /** "so that behind n YEARS no head owes more than v (0 .. 999)". */
    private static void buildingUpToV() {
        PaidByTheUnborn x = Due.told("f0190;w00900;r00;");
        Due.is("900 of 900", x.building(0, 900, 0), 1);
        Due.is("900 of 899", x.building(0, 899, 0), 0);
        Due.is("its COST", x.building(0, 899, 1), 0);
        Due.is("paid behind 100", x.building(100, 0, 0), 1);
        Due.is("its COST, too", x.building(100, 0, 1), 900);
        Due.is("9 lack behind 99", x.building(99, 8, 0), 0);
        Due.is("9 do not", x.building(99, 9, 0), 1);
        PaidByTheUnborn y = Due.told("f0100;f0100;w10999;w19999;");
        Due.is("both 1004 and 1003: either, for the same COST, 500 or 504", y.building(0, 999, 0), 1);
        Due.is("500 of 499", y.building(0, 499, 0), 0);
        PaidByTheUnborn z = Due.told("f0200;w10999;w00999;");
        Due.is("1998 by 2", z.building(0, 999, 0), 3);
        Due.is("1997 by 2, up", z.building(0, 998, 0), 1);
    }

    /** "the set of WORKS not BUILT (bits) with the most COST .., of several the least bits". */
    private static void buildingOfSeveral() {
        PaidByTheUnborn x = Due.told("f0100;w00010;w00020;w00030;w00030;w00060;r00;");
        Due.is("30: 3 before 4 and 8", x.building(0, 30, 0), 3);
        Due.is("60: 7 before 11, 12 and 16", x.building(0, 60, 0), 7);
        Due.is("29: 20 alone", x.building(0, 29, 0), 2);
        Due.is("9: none", x.building(0, 9, 0), 0);
        Due.is("all", x.building(0, 150, 0), 31);
        x.builds(0);
        Due.is("without the BUILT one: 4 before 8 for 30", x.building(0, 40, 0), 4);
        Due.is("50 by 6", x.building(0, 60, 0), 6);
        for (int w = 1; w < 5; w++) x.builds(w);
        Due.is("all are BUILT", x.building(0, 150, 0), 0);
        Due.is("for 0", x.building(0, 150, 1), 0);
        PaidByTheUnborn y = Due.told("f0100;f0100;w20010;w40010;r00;");
        Due.is("by numbers: the PEN behind the WAR is the other's", y.building(0, 20, 0), 3);
        PaidByTheUnborn z = Due.told("f0100;f0100;w40010;w20010;r00;");
        Due.is("by numbers: the WAR behind the PEN is the same one's", z.building(0, 20, 0), 1);
    }

    /** "-9 not even with none". */
    private static void buildingNotEvenWithNone() {
        PaidByTheUnborn x = Due.told("f0100;f0300;d000001;w00001;r00;");
        Due.is("1 is more than 0", x.building(0, 0, 0), -9);
        Due.is("no COST", x.building(0, 0, 1), -9);
        Due.is("1 is not more than 1", x.building(0, 1, 0), 0);
        x.debt(0, 0);
        x.debt(1, 1);
        Due.is("1 by 3, up, is more than 0", x.building(100, 0, 0), -9);
        Due.is("nobody owes", Due.told("w00001;w29999;").building(0, 0, 0), 3);
        Due.is("nobody, nothing", new PaidByTheUnborn().building(100, 999, 1), 0);
    }

    /** "ONE MORE: the WORK not BUILT by which .. ALL DEBTS .. are least, of several the least; -9". */
    private static void oneMore() {
        Due.is("no WORKS", Due.told("f0100;").oneMore(0), -9);
        PaidByTheUnborn x = Due.told("f0100;w00007;w00006;w10006;w00005;");
        Due.is("5", x.oneMore(0), 3);
        x.builds(3);
        Due.is("of two the least", x.oneMore(0), 1);
        x.builds(1);
        Due.is("the other", x.oneMore(100), 2);
        x.builds(2);
        Due.is("the last", x.oneMore(0), 0);
        x.builds(0);
        Due.is("all are BUILT", x.oneMore(0), -9);
        PaidByTheUnborn y = Due.told("f0100;d099999;w00900;w00001;");
        Due.is("with 99999 at most all are alike", y.oneMore(0), 0);
        Due.is("with nobody, too", Due.told("w00900;w00001;").oneMore(0), 0);
        PaidByTheUnborn z = Due.told("f0110;f0100;d100001;r00;w40050;w20050;w00099;");
        Due.is("behind 100 it is the PEN that is paid", z.oneMore(100), 0);
        Due.is("now it is the WORK", z.oneMore(0), 2);
    }

    /** "SHARE of a WORK: what one would owe for it now (BUILT or not)". */
    private static void share() {
        PaidByTheUnborn x = Due.told("f0100;f0300;w00003;w10003;w20003;w40003;");
        int[][] due = {{2, 1}, {1, 2}, {0, 6}, {6, 0}};
        for (int round = 0; round < 2; round++) {
            for (int w = 0; w < 4; w++) {
                for (int f = 0; f < 2; f++) Due.is("share " + w + " of " + f, x.share(w, f), due[w][f]);
            }
            x.builds(1);
            x.builds(3);
            due[3] = new int[] {0, 6};
        }
        x.debt(1, 99999);
        Due.is("the PEN is the first's", x.share(3, 0), 6);
        Due.is("the WAR is the other's, for all that it owes", x.share(2, 1), 6);
    }

    /** "how much less .., had a WORK's share, as it is now, not been in its DEBT (0 at least, before these YEARS)". */
    private static void pulledDown() {
        PaidByTheUnborn x = Due.told("f0100;w00010;d000009;r10;");
        Due.is("9 less 10", x.pulledDown(0, 0, 0), 9);
        x.debt(0, 10);
        Due.is("10 less 10", x.pulledDown(0, 0, 0), 10);
        Due.is("11", x.pulledDown(0, 0, 1), 11);
        x.debt(0, 11);
        Due.is("11 less 10", x.pulledDown(0, 0, 0), 10);
        x.debt(0, 0);
        Due.is("nothing less", x.pulledDown(0, 0, 100), 0);
        PaidByTheUnborn y = Due.told("f0110;w00010;d000110;r00;");
        Due.is("behind 100: 10 and nothing", y.pulledDown(0, 0, 100), 10);
        y.debt(0, 100);
        Due.is("behind 100: nothing and nothing", y.pulledDown(0, 0, 100), 0);
        Due.is("behind 99: 1 and nothing", y.pulledDown(0, 0, 99), 1);
        y.rate(20);
        y.debt(0, 99999);
        Due.is("99999 at most, with it and without", y.pulledDown(0, 0, 1), 0);
        PaidByTheUnborn z = Due.told("f0100;f0100;w20010;d000050;d100050;");
        Due.is("what is the other's is not in its DEBT", z.pulledDown(0, 1, 0), 0);
    }

    /** "their DEBTS and HEADS together (..; 20, 99999 at most)". */
    private static void mergerAtMost() {
        PaidByTheUnborn x = Due.told("f1000;f1000;f1100;f2000;d001000;d101001;d298999;d399999;r00;");
        Due.is("2001 by 20, up", x.merger(0, 1, 0), 101);
        Due.is("99999 by 20 HEADS, of 21", x.merger(0, 2, 0), 5000);
        Due.is("99999 of 100000", x.merger(1, 2, 0), 5000);
        Due.is("99999 of 199998, 20 HEADS of 40", x.merger(3, 2, 0), 5000);
        Due.is("100 on", x.merger(0, 1, 100), 101);
        x.debt(0, 0);
        x.debt(1, 0);
        Due.is("nothing", x.merger(0, 1, 0), 0);
    }

    /** "(PAYS and BIRTHS of the first)". */
    private static void mergerOfTheFirst() {
        PaidByTheUnborn x = Due.told("f0110;f0102;d000010;d100010;r00;");
        Due.is("2 a YEAR: 20 less 8, by 2", x.merger(0, 1, 4), 6);
        Due.is("none paid, 2 born: 20 by 4", x.merger(1, 0, 4), 5);
        Due.is("behind 100: all is paid", x.merger(0, 1, 100), 0);
        Due.is("behind 100: 20 HEADS", x.merger(1, 0, 100), 1);
        Due.is("one twice", x.merger(0, 0, 0), -1);
    }

    /** "the two for whom that is least, and less than for either alone; of several the first (..); -9". */
    private static void bestMerger() {
        Due.is("none of nobody", new PaidByTheUnborn().bestMerger(0), -9);
        PaidByTheUnborn x = Due.told("f0100;f0100;d000010;d100010;r00;");
        Due.is("10 is not less than 10", x.bestMerger(0), -9);
        PaidByTheUnborn y = Due.told("f0109;f0110;f0100;d000020;d100060;d200050;r00;");
        Due.is("with PAYS of the lesser: 49, alone 54 and 50", y.bestMerger(6), 12);
        Due.is("50, alone 55 and 50: not less than either", y.bestMerger(5), -9);
        PaidByTheUnborn z = Due.told("f0110;f0100;f0110;f0100;d000060;d100050;d200060;d300050;r00;");
        Due.is("of several the first: 1 before 3 and 23", z.bestMerger(20), 1);
        z.debt(3, 41);
        Due.is("least: 61 by 2 before 70 by 2", z.bestMerger(20), 3);
        Due.is("behind 100 the one alone owes nothing", z.bestMerger(100), -9);
    }

    /** "CHILD: the price of one: DEBT by HEADS of its FAMILY as a fraction"; "in lowest terms; 0 as 0 over 1". */
    private static void child() {
        int[][] due = {{20, 20, 1, 1}, {15, 20, 3, 4}, {0, 20, 0, 1}, {99999, 20, 99999, 20}, {99990, 20, 9999, 2},
            {7, 1, 7, 1}, {1, 7, 1, 7}, {60, 12, 5, 1}, {0, 1, 0, 1}};
        for (int[] of : due) {
            PaidByTheUnborn x = new PaidByTheUnborn();
            x.family(of[1], 0, 0);
            x.debt(0, of[0]);
            Due.is(of[0] + " by " + of[1] + ", above", x.child(0, 0), of[2]);
            Due.is(of[0] + " by " + of[1] + ", below", x.child(0, 1), of[3]);
        }
        PaidByTheUnborn x = new PaidByTheUnborn();
        Due.is("of nobody", x.child(0, 0), 4000000000000000001L);
        x.family(1, 0, 0);
        Due.is("of another part", x.child(0, 2), 4000000000000000002L);
        Due.is("of nobody first", x.child(1, 2), 4000000000000000001L);
        Due.is("counted", x.count(11) * 10 + x.count(12), 21);
    }

    /** "the FAMILY with the cheapest child, of several the least; -9". */
    private static void cheapest() {
        Due.is("nobody", new PaidByTheUnborn().cheapest(0, 0), -9);
        PaidByTheUnborn x = Due.told("f0400;f0200;f2000;f1900;d000002;d100001;d200010;d300009;");
        Due.is("9 by 19 is below the halves", x.cheapest(0, 0), 3);
        x.debt(3, 10);
        Due.is("of three halves the least", x.cheapest(100, 0), 0);
        x.debt(1, 0);
        Due.is("nothing", x.cheapest(0, 0), 1);
        x.debt(0, 0);
        Due.is("of two the least", x.cheapest(0, 0), 0);
        PaidByTheUnborn y = Due.told("f2000;f1900;d099999;d194999;");
        Due.is("94999 by 19 and 99999 by 20: up they are alike", y.cheapest(0, 0), 1);
    }

    /** "born in n YEARS (into a FAMILY with no DEBT as it is born, HEADS below 20)". */
    private static void foughtOver() {
        Due.is("nobody", new PaidByTheUnborn().cheapest(100, 1), 0);
        PaidByTheUnborn x = Due.told("f1801;f1901;f2001;f0100;f0109;");
        Due.is("none in no YEAR", x.cheapest(0, 1), 0);
        Due.is("one each of two", x.cheapest(1, 1), 2);
        Due.is("one of the first, with 20 HEADS none", x.cheapest(2, 1), 3);
        Due.is("one in YEAR 9", x.cheapest(9, 1), 4);
        Due.is("11 of the last", x.cheapest(100, 1), 3 + 11);
        PaidByTheUnborn y = Due.told("f0151;d000015;r00;");
        Due.is("owing in YEAR 1, nothing as the payment of YEAR 2 is made", y.cheapest(2, 1), 1);
        Due.is("owing in YEAR 1", y.cheapest(1, 1), 0);
        y.debt(0, 16);
        Due.is("owing 1", y.cheapest(2, 1), 0);
        Due.is("then nothing", y.cheapest(3, 1), 1);
    }

    /** "each PAYS as now (0) or 1 more (1; 9 at most)". */
    private static void treatyAtMost() {
        PaidByTheUnborn x = Due.told("f0180;f0190;d000400;d100400;r10;");
        Due.is("9 is less than 8, what is 9 stays 9", x.treaty(0, 1, 30), 10);
        Due.is("the other way", x.treaty(1, 0, 30), 1);
        Due.is("in no YEAR neither", x.treaty(0, 1, 0), 0);
        Due.is("one YEAR's payment bears nothing yet", x.treaty(0, 1, 1), 0);
        Due.is("one twice", x.treaty(1, 1, 5), -1);
    }

    /** "first pair by which neither has less by another one alone". */
    private static void treatyOfEqual() {
        PaidByTheUnborn x = Due.told("f0100;f0100;d000009;d100100;r10;");
        Due.is("9 bears nothing either way, 110 bears 11 and 109 bears 10", x.treaty(0, 1, 2), 1);
        Due.is("the other first", x.treaty(1, 0, 2), 10);
        Due.is("with none to be saved", x.treaty(0, 1, 1), 0);
        x.debt(0, 100);
        Due.is("both", x.treaty(0, 1, 2), 11);
        x.rate(0);
        Due.is("of several the first", x.treaty(0, 1, 100), 0);
    }

    /** "no more than COST by all HEADS, up: how many heads; whether more than half of all". */
    private static void signature() {
        PaidByTheUnborn x = Due.told("f0300;f0300;w20003;w20004;w10006;w19006;");
        Due.is("2 of 1 is too much, nothing is not", x.signature(0, 0), 3);
        Due.is("half is not more than half", x.signature(0, 1), 0);
        Due.is("8 by 3, up, of 1", x.signature(1, 0), 3);
        Due.is("3 by 3 of 1", x.signature(2, 0), 6);
        Due.is("all is more", x.signature(2, 1), 1);
        Due.is("8 and 7 by 3, up, of 1", x.signature(3, 0), 0);
        Due.is("none is not more", x.signature(3, 1), 0);
        PaidByTheUnborn y = Due.told("f0300;f0400;w20003;");
        Due.is("3 of 7: less than half", y.signature(0, 1), 0);
        PaidByTheUnborn z = Due.told("f0400;f0300;f0100;w20003;w20004;");
        Due.is("4 of 8: half", z.signature(0, 0) * 10 + z.signature(0, 1), 40);
        z.family(1, 0, 0);
        Due.is("5 of 9: more than half", z.signature(0, 0) * 10 + z.signature(0, 1), 51);
        Due.is("without FAMILIES", Due.told("w00005;").signature(0, 1), 0);
    }

    /** "a ROW tells DEBTS of FAMILIES 0, 1, .. (as many as there are)": "-3 not as many as FAMILIES". */
    private static void whoBuilt() {
        PaidByTheUnborn x = Due.told("w00001;w00001;w29999;");
        Due.is("with nobody all sets", x.whoBuilt(0), 8);
        Due.is("none the least", x.whoBuilt(1), 0);
        x.row(0);
        Due.is("one too many", x.whoBuilt(0), -3);
        x.family(1, 0, 0);
        Due.is("none is BUILT", x.whoBuilt(0) * 10 + x.whoBuilt(1), 10);
        x.family(1, 0, 0);
        Due.is("one too few", x.whoBuilt(0), -3);
        x.row(1);
        Due.is("0 and 1: what is left over is the first's", x.whoBuilt(0), 0);
        Due.is("-9", x.whoBuilt(1), -9);
        x.clear();
        row(x, 1, 0);
        Due.is("either", x.whoBuilt(0) * 10 + x.whoBuilt(1), 21);
        x.clear();
        row(x, 2, 0);
        Due.is("both, and each for itself", x.whoBuilt(0) * 10 + x.whoBuilt(1), 13);
        x.builds(0);
        x.debt(1, 5);
        Due.is("as if none was BUILT nor owed", x.whoBuilt(0) * 10 + x.whoBuilt(1), 13);
        Due.is("the ROW stays", x.count(8), 2);
        PaidByTheUnborn y = Due.told("f0100;w00001;w30001;w30001;w00001;w00001;w00001;");
        y.row(4);
        Due.is("63 less two CRADLES of nothing, with each of them", y.whoBuilt(0), 4);
        Due.is("the least", y.whoBuilt(1), 57);
    }

    /** "99 for 99 or more". */
    private static void whoBuilt99() {
        PaidByTheUnborn x = Due.told("f0100;w00098;w00001;w00999;");
        x.row(98);
        Due.is("98", x.whoBuilt(0) * 10 + x.whoBuilt(1), 11);
        x.clear();
        x.row(99);
        Due.is("99 and more", x.whoBuilt(0) * 10 + x.whoBuilt(1), 53);
        PaidByTheUnborn y = Due.told("f0100;f0100;d000500;w40090;w40001;");
        row(y, 2, 99);
        Due.is("one behind another, by numbers, from nothing", y.whoBuilt(0), 0);
        y.clear();
        row(y, 99, 2);
        Due.is("the first's is the first", y.whoBuilt(1), 3);
    }

    /** "in each of n YEARS (0 .. 8)"; "v (0 .. 999) or less". */
    private static void birthsInNoYear() {
        PaidByTheUnborn x = Due.told("f0100;d000999;r00;");
        Due.is("999 of 999", x.births(0, 0, 999, 2, 0), 1);
        Due.is("over 1", x.births(0, 0, 999, 2, 1), 1);
        Due.is("999 of 998", x.births(0, 0, 998, 20, 0), 0);
        Due.is("0 over 1", x.births(0, 0, 998, 20, 1), 1);
        Due.is("in a YEAR with one, 500", x.births(0, 1, 998, 20, 0), 1);
        Due.is("over 20", x.births(0, 1, 998, 20, 1), 20);
        x.debt(0, 0);
        Due.is("nothing of 0", x.births(0, 8, 0, 2, 0) + x.births(0, 8, 0, 2, 1), 2);
        PaidByTheUnborn y = Due.told("f0191;d000027;r00;");
        Due.is("9, and 9 or 18, BIRTHS aside: 27 less 18 or 27", y.births(0, 2, 0, 2, 0), 1);
        Due.is("over 2", y.births(0, 2, 0, 2, 1), 2);
    }

    private static void birthsUpTo20() {
        PaidByTheUnborn x = Due.told("f1900;f2000;d000200;d100200;r00;");
        Due.is("one or more of 8 of 2", x.births(0, 8, 10, 2, 0), 255);
        Due.is("over 256", x.births(0, 8, 10, 2, 1), 256);
        Due.is("20 HEADS at most", x.births(0, 8, 9, 2, 0), 0);
        Due.is("20 already", x.births(1, 8, 10, 20, 0), 1);
        Due.is("over 1", x.births(1, 8, 10, 20, 1), 1);
        Due.is("20 stay 20", x.births(1, 8, 9, 20, 0), 0);
    }

    /** "odds 1 in t (2 .. 20)": "Fractions are told in lowest terms". */
    private static void birthsInLowestTerms() {
        PaidByTheUnborn x = Due.told("f0100;d000009;r00;");
        Due.is("all 8 of 20", x.births(0, 8, 1, 20, 0), 1);
        Due.is("over 20 to the 8th", x.births(0, 8, 1, 20, 1), 25600000000L);
        Due.is("not all 8 of 20: 9 by 8", x.births(0, 8, 8, 20, 0), 25600000000L - 16983563041L);
        Due.is("over 20 to the 8th, too", x.births(0, 8, 8, 20, 1), 25600000000L);
        Due.is("4 or more of 8 of 2: 163 over 256", x.births(0, 8, 2, 2, 0), 163);
        Due.is("over 256", x.births(0, 8, 2, 2, 1), 256);
        Due.is("1 or 2 of 2: 3 over 4", x.births(0, 2, 5, 2, 0), 3);
        Due.is("1 or 2 of 3 in two: 5 over 9", x.births(0, 2, 5, 3, 1), 9);
        Due.is("both of 4 in two: 1 over 16", x.births(0, 2, 3, 4, 1), 16);
    }

    /** "A ROW of numbers (0 .. 99; 12 at most)". */
    private static void rowUpTo12() {
        PaidByTheUnborn x = Due.told("f0100;");
        Due.is("100", x.row(100), -6);
        Due.is("-1", x.row(-1), -4);
        Due.is("none yet", x.clear(), 0);
        for (int k = 1; k <= 12; k++) Due.is("number " + k, x.row(k == 12 ? 99 : 0), k);
        Due.is("the 13th", x.row(0), -6);
        Due.is("the 13th, below", x.row(-1), -4);
        Due.is("12 stay", x.count(8), 12);
        Due.is("the 12th is not so: 99", x.judge(0), 11);
        for (int k = 1; k <= 12; k++) Due.is("number again " + k, x.row(0), k);
        Due.is("cleared", x.clear(), 12);
        Due.is("none", x.clear(), 0);
        Due.is("the first again", x.row(5), 1);
    }

    /** "what a head of one owes (99 for 99 or more) behind 0, 1, .. YEARS: the first that is not so; -9". */
    private static void judged() {
        PaidByTheUnborn x = Due.told("f0110;f0200;d000101;d100197;r00;");
        row(x, 99, 99, 99, 98, 97);
        Due.is("101, 100, 99, 98, 97", x.judge(0), -9);
        row(x, 99, 99, 98);
        Due.is("99 is not 98", x.judge(0), 2);
        row(x, 99, 99, 99, 99);
        Due.is("98 is not 99", x.judge(0), 3);
        row(x, 98, 99, 98);
        Due.is("the first of two", x.judge(0), 0);
        row(x, 99, 99);
        Due.is("197 by 2, up", x.judge(1), -9);
        Due.is("an empty ROW", x.judge(1), -9);
        x.row(1);
        Due.is("nobody", x.judge(2), -1);
        Due.is("it stays", x.count(8), 1);
        Due.is("whichever it answers", x.judge(0), 0);
        Due.is("the ROW has none then", x.count(8), 0);
    }

    private static void judgedAll() {
        PaidByTheUnborn x = Due.told("f0119;d000050;r00;");
        x.years(3);
        row(x, 47, 46, 45, 44, 43, 42, 21, 20, 19, 18, 17, 16);
        Due.is("all 12, one born in YEAR 9", x.judge(0), -9);
        row(x, 47, 46, 45, 44, 43, 42, 21, 20, 19, 18, 17, 15);
        Due.is("the 12th", x.judge(0), 11);
        PaidByTheUnborn y = Due.told("y60;y60;y60;y60;y60;y60;y60;y60;y60;y60;y60;y60;y60;y60;y60;y60;f0105;d000009;");
        y.years(39);
        row(y, 2, 1);
        Due.is("8 HEADS, and in YEAR 1000 one is born", y.judge(0), -9);
    }

    /** "LOTS with a seed z: n centuries (1 .. 20) of 50 YEARS, each from now". */
    private static void lotsFromNow() {
        PaidByTheUnborn x = Due.told("f0100;d000100;");
        Due.is("no century", x.lots(0, 1, 0), -4);
        Due.is("21 centuries", x.lots(21, 1, 0), -6);
        int[] seeds = {0, 1, -1, 99, Integer.MIN_VALUE, Integer.MAX_VALUE, 65536, -65537};
        for (int seed : seeds) {
            for (int n = 1; n <= 20; n += 19) {
                Due.is("LOTS of " + n + " by " + seed, x.lots(n, seed, 0), lots(n, seed, 0));
                Due.is("how many of " + n + " by " + seed, x.lots(n, seed, 1), lots(n, seed, 1));
            }
        }
    }

    /** "z becomes z times 1103515245 plus 12345 (an int, wrapping); .. (z without its sign's bit, over 65536, cut)". */
    private static long lots(int n, int seed, int what) {
        long z = seed;
        long debts = 0;
        long free = 0;
        for (int century = 0; century < n; century++) {
            long[] drawn = new long[2];
            for (int k = 0; k < 2; k++) {
                z = Math.floorMod(z * 1103515245L + 12345L, 4294967296L);
                drawn[k] = z % 2147483648L / 65536 % 10;
            }
            long debt = 100;
            for (int k = 0; k < 50; k++) debt = Math.max(0, Math.min(99999, debt + debt * drawn[0] / 100) - drawn[1]);
            debts += debt;
            if (debt == 0) free++;
        }
        return what == 0 ? debts : free;
    }

    /** The first DRAWS of some seeds, reckoned by hand: of seed 0 they are 0 (12345 over 65536) and 8. */
    private static void draws() {
        PaidByTheUnborn x = Due.told("f0100;d000999;");
        Due.is("seed 0: RATE 0, PAYS 8 for 50 YEARS", x.lots(1, 0, 0), 599);
        x.debt(0, 400);
        Due.is("400 are paid", x.lots(1, 0, 0), 0);
        Due.is("one owes nothing", x.lots(1, 0, 1), 1);
        x.debt(0, 401);
        Due.is("401 are not", x.lots(1, 0, 0) * 10 + x.lots(1, 0, 1), 10);
    }

    private static void lotsOfNobody() {
        PaidByTheUnborn x = new PaidByTheUnborn();
        Due.is("nobody owes", x.lots(20, 7, 0), 0);
        Due.is("nobody owes nothing", x.lots(20, 7, 1), 0);
        PaidByTheUnborn y = Due.told("f0100;f0100;f0100;f0100;f0100;");
        Due.is("all owe nothing in all centuries", y.lots(20, 7, 1), 100);
        Due.is("in one", y.lots(1, 7, 1), 5);
    }
}
