/** Chapter I, sentence by sentence where one tells a boundary; the letters' are in LettersTest. */
final class SentencesOneTest {
    public static void main(String[] args) {
        aNewObject();
        aNewObjectInMind();
        fiveFamilies();
        debtIsNothingAtFirst();
        paysAHeadAYear();
        birthsEachSoManyYears();
        rateIsFiveAtFirst();
        yearUpTo999();
        sixWorks();
        builtOnce();
        dues();
        pensDueIsOneAtLeast();
        debtsAtMost();
        sharesAlike();
        sharesByHeads();
        sharesToTheMostHeads();
        sharesToTheLeastDebt();
        sharesOfThoseWithBirths();
        sharesOfARuin();
        withoutFamilies();
        interestIsCut();
        interestAtMost();
        interestThenPaymentThenBirths();
        paymentsDownToNothing();
        headsUpTo20();
        counts();
        Due.end();
    }

    private static void debts(String told, PaidByTheUnborn x, int... due) {
        for (int f = 0; f < due.length; f++) Due.is(told + ", DEBT of " + f, x.familyOf(f, 1), due[f]);
    }

    /** The shares of the first WORK, as they are asked for, and then as they are owed. */
    private static void shares(String text, int... due) {
        PaidByTheUnborn x = Due.told(text);
        int sum = 0;
        for (int f = 0; f < due.length; f++) {
            Due.is(text + " share of " + f, x.share(0, f), due[f]);
            due[f] += x.familyOf(f, 1);
            sum += due[f];
        }
        Due.is(text + " builds", x.builds(0), sum);
        debts(text, x, due);
    }

    /** Promise 1: "No FAMILIES, YEAR 0". */
    private static void aNewObject() {
        PaidByTheUnborn x = new PaidByTheUnborn();
        int[] due = {0, 0, 0, 5, 0, 0, 0, 0, 0, 0, -9, 0, 0, 0, 0, 0, 0, -9};
        for (int what = 0; what < due.length; what++) Due.is("new count " + what, x.count(what), due[what]);
        Due.is("no FAMILY", x.familyOf(0, 0), -1);
        Due.is("no WORK", x.workOf(0, 0), -1);
        Due.is("none is BUILT", x.builds(0), -1);
        Due.is("no DEBT", x.debt(0, 0), -1);
        Due.is("nothing to take back", x.back(), -3);
        Due.is("no image", x.restore(), -3);
        Due.is("no letters", x.treasury(), -1000);
        Due.is("nothing in the ROW", x.clear(), 0);
        Due.is("nobody to judge", x.judge(0), -1);
        Due.is("RATE", x.rate(5), 5);
        Due.is("back", x.back(), 0);
        Due.is("YEARS", x.years(60), 0);
        Due.is("YEAR", x.count(2), 60);
        Due.is("back in YEAR 0", x.back() + x.count(2), 0);
        Due.is("an image of YEAR 0", x.image() + x.restore(), 0);
    }

    private static void aNewObjectInMind() {
        PaidByTheUnborn x = new PaidByTheUnborn();
        Due.is("all", x.all(0) + x.all(100), 0);
        Due.is("first", x.first(0), -9);
        Due.is("GROWS", x.first(1), 0);
        Due.is("STUCK", x.first(2), -9);
        Due.is("building", x.building(0, 0, 0) + x.building(100, 999, 1), 0);
        Due.is("oneMore", x.oneMore(0), -9);
        Due.is("bestMerger", x.bestMerger(0), -9);
        Due.is("cheapest", x.cheapest(0, 0), -9);
        Due.is("FOUGHT OVER", x.cheapest(100, 1), 0);
        Due.is("whoBuilt: none, by the empty ROW", x.whoBuilt(0), 1);
        Due.is("the least", x.whoBuilt(1), 0);
        Due.is("OLDEST, LAST", x.oldest(0) + x.oldest(1), -18);
        Due.is("order", x.order(-1), 0);
        Due.is("the first of none", x.order(0), -9);
        Due.is("jubilee", x.jubilee(100), -9);
        Due.is("fair", x.fair(0), 0);
        Due.is("who", x.fair(1), -9);
        Due.is("commonPay", x.commonPay(100, 0), 0);
        Due.is("rank", x.rank(0), -9);
        Due.is("half", x.half(), 0);
        Due.is("lots", x.lots(1, 1, 0) + x.lots(20, 1, 1), 0);
        for (int what = 11; what <= 16; what++) Due.is("nothing was refused, count " + what, x.count(what), 0);
    }

    /** "FAMILIES 0 .. 4 as they come (5 at most)". */
    private static void fiveFamilies() {
        PaidByTheUnborn x = new PaidByTheUnborn();
        Due.is("none yet", x.familyOf(0, 0), -1);
        x.image();
        for (int f = 0; f < 5; f++) Due.is("as they come", x.family(f + 1, f, f), f);
        Due.is("a sixth", x.family(1, 0, 0), -6);
        Due.is("5 there are", x.count(0), 5);
        Due.is("the fifth", x.familyOf(4, 0), 5);
        Due.is("not a sixth", x.familyOf(5, 0), -1);
        x.restore();
        Due.is("none again", x.familyOf(0, 0), -1);
        Due.is("as they come again", x.family(7, 1, 1), 0);
    }

    /** "DEBT (0 .. 99999; 0 at first)". */
    private static void debtIsNothingAtFirst() {
        PaidByTheUnborn x = new PaidByTheUnborn();
        x.image();
        x.family(1, 0, 0);
        Due.is("0 at first", x.familyOf(0, 1), 0);
        Due.is("the greatest", x.debt(0, 99999), 0);
        Due.is("it is so", x.familyOf(0, 1), 99999);
        Due.is("one more", x.debt(0, 100000), -6);
        Due.is("it stays", x.familyOf(0, 1), 99999);
        Due.is("one less than none", x.debt(0, -1), -4);
        x.restore();
        x.family(1, 0, 0);
        Due.is("0 at first, where another owed", x.familyOf(0, 1), 0);
        x.debt(0, 9);
        Due.tell(x, "f0100;");
        x.treasury();
        Due.is("0 at first, as it is told", x.familyOf(1, 1), 0);
    }

    /** "PAYS (0 .. 9 a head a YEAR)". */
    private static void paysAHeadAYear() {
        PaidByTheUnborn x = Due.told("f2090;f2000;f0110;d099999;d199999;d299999;r00;");
        x.years(1);
        debts("a YEAR", x, 99819, 99999, 99998);
        x.years(2);
        debts("3 YEARS", x, 99459, 99999, 99996);
    }

    /** "BIRTHS (each so many YEARS one, 1 .. 9; 0 none)"; "if BIRTHS divides YEAR". */
    private static void birthsEachSoManyYears() {
        int[] born = {0, 18, 9, 6, 4, 3, 3, 2, 2, 2};
        for (int births = 0; births <= 9; births++) {
            PaidByTheUnborn x = new PaidByTheUnborn();
            x.family(1, 0, births);
            Due.is("born in 18 YEARS of " + births, x.behind(0, 18, 1), 1 + born[births]);
            if (births == 0) continue;
            Due.is("none ahead of YEAR " + births, x.behind(0, births - 1, 1), 1);
            Due.is("one in YEAR " + births, x.behind(0, births, 1), 2);
        }
        PaidByTheUnborn x = new PaidByTheUnborn();
        x.years(4);
        x.family(1, 0, 3);
        x.years(1);
        Due.is("not in YEAR 5", x.familyOf(0, 0), 1);
        x.years(1);
        Due.is("in YEAR 6, though it has been here for 2 alone", x.familyOf(0, 0), 2);
    }

    /** "RATE (0 .. 20 of 100 a YEAR; 5 at first)". */
    private static void rateIsFiveAtFirst() {
        PaidByTheUnborn x = Due.told("f0100;d000100;");
        Due.is("5 at first", x.count(3), 5);
        Due.is("5 of 100", x.all(1), 105);
        Due.is("it was 5", x.rate(20), 5);
        Due.is("20 of 100", x.all(1), 120);
        Due.is("21", x.rate(21), -6);
        Due.is("it was 20", x.rate(0), 20);
        Due.is("0 of 100", x.all(1), 100);
        Due.is("below 0", x.rate(-1), -4);
        Due.is("it was 0", x.rate(1), 0);
    }

    /** "YEAR (0 .. 999; 0 at first)"; "-6 (60; YEAR above 999)". */
    private static void yearUpTo999() {
        PaidByTheUnborn x = Due.told("f0109;");
        Due.is("0 at first", x.count(2), 0);
        Due.is("none", x.years(0), -4);
        Due.is("61", x.years(61), -6);
        for (int k = 0; k < 16; k++) x.years(60);
        Due.is("60 each", x.count(2), 960);
        Due.is("40 more", x.years(40), -6);
        Due.is("60 more", x.years(60), -6);
        Due.is("38 more", x.years(38), 0);
        Due.is("2 more", x.years(2), -6);
        Due.is("1 more", x.years(1), 0);
        Due.is("999", x.count(2), 999);
        Due.is("1000", x.years(1), -6);
        Due.is("it stays", x.count(2), 999);
        Due.is("none is below", x.years(0), -4);
        PaidByTheUnborn y = Due.told("f0109;d000100;y60;y60;y60;y60;y60;y60;y60;y60;y60;y60;y60;y60;y60;y60;y60;y60;");
        y.years(38);
        y.family(1, 0, 5);
        Due.is("in mind it goes on to YEAR 1000, which 5 divides", y.behind(1, 2, 1), 2);
        Due.is("not in YEAR 999", y.behind(1, 1, 1), 1);
    }

    /** "WORKS 0 .. 5 as they come (6 at most; BUILT or not, not at first)". */
    private static void sixWorks() {
        PaidByTheUnborn x = new PaidByTheUnborn();
        Due.is("none yet", x.workOf(0, 0), -1);
        x.image();
        for (int w = 0; w < 6; w++) {
            Due.is("as they come", x.work(5 - w, w, w + 1), w);
            Due.is("not BUILT at first", x.workOf(w, 4), 0);
        }
        Due.is("a seventh", x.work(0, 0, 1), -6);
        Due.is("6 there are", x.count(1), 6);
        Due.is("the sixth", x.workOf(5, 2), 6);
        Due.is("not a seventh", x.workOf(6, 2), -1);
        x.builds(5);
        Due.is("BUILT", x.workOf(5, 4), 1);
        Due.is("the other is not", x.workOf(4, 4), 0);
        Due.is("its bit", x.count(6), 32);
        x.restore();
        Due.is("none again", x.workOf(0, 0), -1);
        Due.is("as they come again", x.work(0, 0, 1), 0);
        Due.is("not BUILT", x.workOf(0, 4), 0);
    }

    /** "As a WORK is BUILT (once), its DUE is shared". */
    private static void builtOnce() {
        PaidByTheUnborn x = Due.told("f0100;w00007;w00001;");
        Due.is("once", x.builds(0), 7);
        Due.is("not twice", x.builds(0), -3);
        Due.is("7 are owed", x.count(5), 7);
        Due.is("the other", x.builds(1), 8);
        Due.is("not twice, behind another", x.builds(0), -3);
        x.back();
        x.back();
        Due.is("once more, TAKEN BACK", x.builds(0), 7);
    }

    /** DUE of each KIND at the edges of FIGURE and COST. */
    private static void dues() {
        int[][] given = {{0, 1}, {9, 1}, {0, 999}, {9, 999}, {0, 2}, {1, 2}, {2, 2}, {0, 3}};
        int[][] due = {
            {1, 1, 999, 999, 2, 2, 2, 3},
            {1, 10, 999, 1008, 2, 3, 4, 3},
            {2, 2, 1998, 1998, 4, 4, 4, 6},
            {0, 5, 499, 504, 1, 1, 2, 1},
            {2, 1, 1998, 1989, 4, 3, 2, 6},
            {2, 11, 1998, 2007, 4, 5, 6, 6},
        };
        for (int kind = 0; kind < 6; kind++) {
            for (int k = 0; k < given.length; k++) {
                PaidByTheUnborn x = new PaidByTheUnborn();
                x.work(kind, given[k][0], given[k][1]);
                x.family(3, 0, 0);
                String told = "KIND " + kind + ", FIGURE " + given[k][0] + ", COST " + given[k][1];
                Due.is("DUE of " + told, x.workOf(0, 3), due[kind][k]);
                Due.is("ALL DEBTS by " + told, x.builds(0), due[kind][k]);
            }
        }
    }

    /** "PEN a WAR's less FIGURE (1 at least)". */
    private static void pensDueIsOneAtLeast() {
        int[] due = {4, 3, 2, 1, 1, 1, 1, 1, 1, 1};
        for (int figure = 0; figure <= 9; figure++) {
            PaidByTheUnborn x = new PaidByTheUnborn();
            x.work(4, figure, 2);
            Due.is("a PEN's of FIGURE " + figure, x.workOf(0, 3), due[figure]);
        }
    }

    /** "DEBTS are so much more (99999 at most)". */
    private static void debtsAtMost() {
        PaidByTheUnborn x = Due.told("f0100;f0100;d099997;d199998;w00004;w00002;w00002;");
        Due.is("to the greatest, and one beyond", x.builds(0), 199998);
        debts("99999 at most", x, 99999, 99999);
        Due.is("no more", x.builds(1), 199998);
        x.debt(0, 0);
        Due.is("the other goes on", x.builds(2), 100000);
        shares("f0100;d099998;w00001;", 1);
    }

    /** "WORK to all alike, what is left over 1 each to the first ones". */
    private static void sharesAlike() {
        String five = "f0100;f2000;f0300;f0400;f0500;";
        shares(five + "w09001;", 1, 0, 0, 0, 0);
        shares(five + "w09004;", 1, 1, 1, 1, 0);
        shares(five + "w09005;", 1, 1, 1, 1, 1);
        shares(five + "w09006;", 2, 1, 1, 1, 1);
        shares(five + "w09999;", 200, 200, 200, 200, 199);
        shares("f0100;w09999;", 999);
        shares("f0100;f0100;d100050;w00003;", 2, 1);
    }

    /** "BRIDGE by HEADS (DUE times HEADS by all HEADS, cut; what is left over 1 each to the first ones)". */
    private static void sharesByHeads() {
        shares("f0100;f2000;w10001;", 1, 0);
        shares("f0100;f0100;f0100;w10005;", 2, 2, 1);
        shares("f0300;f0700;w19999;", 303, 705);
        shares("f0400;f0600;w10100;", 40, 60);
        shares("f0100;f0100;f0100;f0100;f0100;w10004;", 1, 1, 1, 1, 0);
        shares("f2000;w19999;", 1008);
        shares("f0200;f0300;f0200;w10010;", 3, 5, 2);
        shares("f0200;f0300;f0200;w10013;", 4, 6, 3);
    }

    /** "WAR all to the one with most HEADS, of several the least number". */
    private static void sharesToTheMostHeads() {
        shares("f0500;f0700;f0700;w29003;", 0, 6, 0);
        shares("f0500;f0500;f0500;w20003;", 6, 0, 0);
        shares("f0100;f0100;f0200;w20001;", 0, 0, 2);
        shares("f2000;f1900;f2000;d000500;w20001;", 2, 0, 0);
    }

    /** "PEN all to the one with least DEBT, of several the least". */
    private static void sharesToTheLeastDebt() {
        shares("f0100;f0100;f0100;d000005;d100003;d200003;w40003;", 0, 6, 0);
        shares("f0100;f2000;f0100;w43003;", 3, 0, 0);
        shares("f0100;f0100;f0100;d000001;d100001;w49001;", 0, 0, 1);
        PaidByTheUnborn x = Due.told("f0100;f0100;f0100;w40001;w40001;w40001;w40001;");
        for (int w = 0; w < 4; w++) x.builds(w);
        debts("one behind another", x, 4, 2, 2);
    }

    /** "CRADLE as a BRIDGE, but of those with BIRTHS alone (none: as a BRIDGE)". */
    private static void sharesOfThoseWithBirths() {
        shares("f0900;f0103;f0900;f0204;w30011;", 0, 2, 0, 3);
        shares("f0900;f0100;f0900;f0200;w30011;", 3, 0, 2, 0);
        shares("f2000;f0109;w39999;", 0, 504);
        shares("f2001;f0100;w30003;", 1, 0);
        shares("f0101;f0100;w30001;", 0, 0);
        shares("f0101;f0102;f0103;w30010;", 2, 2, 1);
    }

    /** "RUIN as a BRIDGE". */
    private static void sharesOfARuin() {
        shares("f0100;f0101;w59001;", 6, 5);
        shares("f0700;f0103;f0100;w50004;", 7, 1, 0);
    }

    /** "Without FAMILIES nothing is owed". */
    private static void withoutFamilies() {
        PaidByTheUnborn x = new PaidByTheUnborn();
        for (int kind = 0; kind < 6; kind++) x.work(kind, 9, 999);
        for (int w = 0; w < 6; w++) Due.is("without FAMILIES", x.builds(w), 0);
        Due.is("all are BUILT", x.count(6), 63);
        Due.is("YEARS go by", x.years(60), 0);
        x.family(1, 0, 0);
        Due.is("who comes then owes nothing", x.count(5), 0);
    }

    /** "DEBT is DEBT times RATE by 100, cut, more". */
    private static void interestIsCut() {
        PaidByTheUnborn x = Due.told("f0100;f0100;f0100;f0100;f0100;d000019;d100020;d200039;d300040;d400099;");
        x.years(1);
        debts("5 of 100", x, 19, 21, 40, 42, 103);
        x.rate(20);
        x.debt(0, 4);
        x.debt(1, 5);
        x.debt(2, 9);
        x.debt(3, 10);
        x.years(1);
        debts("20 of 100", x, 4, 6, 10, 12, 123);
        x.rate(1);
        x.debt(0, 99);
        x.debt(1, 100);
        x.years(1);
        debts("1 of 100", x, 99, 101);
    }

    /** "(99999 at most); then PAYS times HEADS less". */
    private static void interestAtMost() {
        PaidByTheUnborn x = Due.told("f0100;f0100;f0110;f2090;f0100;d095237;d195238;d295239;d399999;d495239;");
        x.years(1);
        debts("5 of 100", x, 99998, 99999, 99998, 99819, 99999);
        x.years(1);
        debts("once more", x, 99999, 99999, 99998, 99819, 99999);
    }

    /** "DEBT .. more; then PAYS times HEADS less; then, if BIRTHS divides YEAR, HEADS is 1 more". */
    private static void interestThenPaymentThenBirths() {
        PaidByTheUnborn x = Due.told("f0191;d000100;r10;");
        Due.is("110 less 9: who is born pays from the next YEAR on", x.years(1), 101);
        Due.is("HEADS", x.familyOf(0, 0), 2);
        Due.is("111 less 18", x.years(1), 93);
        Due.is("in two YEARS as in one and one", Due.told("f0191;d000100;r10;y02;").count(5), 93);
    }

    /** "(0 at least)". */
    private static void paymentsDownToNothing() {
        PaidByTheUnborn x = Due.told("f0330;f0330;f0330;f0330;d000008;d100009;d200010;r00;");
        x.years(1);
        debts("9 less", x, 0, 0, 1, 0);
        x.years(1);
        debts("once more", x, 0, 0, 0, 0);
    }

    /** "HEADS is 1 more (20 at most)". */
    private static void headsUpTo20() {
        PaidByTheUnborn x = Due.told("f1801;f1901;f2001;");
        int[][] due = {{19, 20, 20}, {20, 20, 20}, {20, 20, 20}};
        for (int[] heads : due) {
            x.years(1);
            for (int f = 0; f < 3; f++) Due.is("HEADS of " + f, x.familyOf(f, 0), heads[f]);
        }
    }

    /** Promise 50: each count as something is there, and -9 "for another what". */
    private static void counts() {
        PaidByTheUnborn x = Due.told("f0411;f0711;w00010;w00010;w00010;");
        x.builds(1);
        x.builds(2);
        x.years(3);
        x.rate(9);
        Due.tell(x, "abcd");
        for (int k = 0; k < 6; k++) x.row(k);
        x.familyOf(9, 0);
        for (int k = 0; k < 2; k++) x.familyOf(0, 9);
        for (int k = 0; k < 3; k++) x.builds(1);
        for (int k = 0; k < 4; k++) x.row(-1);
        for (int k = 0; k < 5; k++) x.row(100);
        int owed = x.familyOf(0, 1) + x.familyOf(1, 1);
        int[] due = {2, 3, 3, 9, 17, owed, 6, 4, 6, 4, -9, 1, 2, 3, 4, 0, 5, -9};
        for (int what = 0; what < due.length; what++) Due.is("count " + what, x.count(what), due[what]);
        Due.is("count -1", x.count(-1), -9);
    }
}
