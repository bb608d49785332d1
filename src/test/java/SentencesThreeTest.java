/** Chapters III and IV, the image and the refusals, sentence by sentence where one tells a boundary. */
final class SentencesThreeTest {
    public static void main(String[] args) {
        eachIsTakenBack();
        whatIsRefusedIsNot();
        asItWasCountsToo();
        eightAtMost();
        olderOnesNoMore();
        backAndOnAgain();
        whatLeavesNone();
        whatLeavesThemAll();
        oldest();
        orderOfNone();
        orderOfFive();
        orderOfSeveral();
        orderAheadOfEachYear();
        jubilee();
        fair();
        peak();
        interest();
        doubled();
        commonPay();
        bestBirths();
        lump();
        crosses();
        heir();
        rank();
        half();
        imageOfNothing();
        imageOfAll();
        imageStays();
        refusalsAreCounted();
        Due.end();
    }

    /** "What builds(), years(), debt(), rate() changed can be TAKEN BACK .., the latest first". */
    private static void eachIsTakenBack() {
        PaidByTheUnborn x = Due.told("f0432;f1901;d000050;w00011;");
        Due.is("nothing to take back", x.back(), -3);
        x.years(6);
        x.builds(0);
        x.debt(1, 99999);
        x.rate(20);
        Due.is("RATE", x.back(), 3);
        Due.is("it is 5", x.count(3), 5);
        Due.is("DEBT", x.back(), 2);
        Due.is("it is 5 by the WORK", x.familyOf(1, 1), 5);
        Due.is("the WORK", x.back(), 1);
        Due.is("it is not BUILT", x.workOf(0, 4) + x.count(6), 0);
        Due.is("nothing is owed for it", x.familyOf(1, 1), 0);
        Due.is("the YEARS", x.back(), 0);
        Due.is("YEAR", x.count(2), 0);
        Due.is("HEADS", x.familyOf(0, 0) * 100 + x.familyOf(1, 0), 419);
        Due.is("DEBT of then", x.familyOf(0, 1), 50);
        Due.is("none", x.back(), -3);
        Due.is("none is counted", x.count(9), 0);
    }

    /** "(each that is not refused counts". */
    private static void whatIsRefusedIsNot() {
        PaidByTheUnborn x = Due.told("f0100;w00001;b0;");
        x.builds(0);
        x.builds(1);
        x.years(0);
        x.years(61);
        x.debt(1, 0);
        x.debt(0, -1);
        x.debt(0, 100000);
        x.rate(-1);
        x.rate(21);
        Due.is("none counts", x.count(9), 0);
        Due.is("none to take back", x.back(), -3);
    }

    /** "also if all stays as it was)". */
    private static void asItWasCountsToo() {
        PaidByTheUnborn x = Due.told("w00001;f0100;");
        x.rate(5);
        Due.is("the same RATE", x.count(9), 1);
        x.debt(0, 0);
        Due.is("the same DEBT", x.count(9), 2);
        x.debt(0, 1);
        Due.is("back", x.back(), 2);
        Due.is("0 as it was", x.familyOf(0, 1), 0);
        Due.is("back", x.back(), 1);
        Due.is("back", x.back(), 0);
    }

    /** "8 at most". */
    private static void eightAtMost() {
        PaidByTheUnborn x = new PaidByTheUnborn();
        for (int k = 1; k <= 8; k++) {
            x.rate(k);
            Due.is("so many", x.count(9), k);
        }
        x.rate(9);
        Due.is("8 of 9", x.count(9), 8);
        for (int k = 8; k >= 1; k--) {
            Due.is("how many can still be", x.back(), k - 1);
            Due.is("RATE", x.count(3), k);
        }
        Due.is("the first of 9 is not", x.back(), -3);
        Due.is("it stays", x.count(3), 1);
        PaidByTheUnborn y = new PaidByTheUnborn();
        for (int k = 1; k <= 8; k++) y.rate(k);
        for (int k = 7; k >= 0; k--) y.back();
        Due.is("of 8 all are", y.count(3), 5);
    }

    /** "(older ones no more". */
    private static void olderOnesNoMore() {
        PaidByTheUnborn x = Due.told("f0100;");
        for (int k = 1; k <= 30; k++) x.debt(0, 100 * k);
        for (int k = 29; k >= 22; k--) {
            x.back();
            Due.is("DEBT", x.familyOf(0, 1), 100 * k);
        }
        Due.is("none older", x.back(), -3);
        Due.is("DEBT stays", x.familyOf(0, 1), 2200);
    }

    /** What is done behind a taking back comes behind what was left, around the whole room of 8. */
    private static void backAndOnAgain() {
        PaidByTheUnborn x = Due.told("f0100;");
        for (int k = 1; k <= 11; k++) x.debt(0, k);
        for (int k = 0; k < 5; k++) x.back();
        Due.is("6 is owed", x.familyOf(0, 1), 6);
        Due.is("3 can be", x.count(9), 3);
        for (int k = 1; k <= 4; k++) x.debt(0, 10 * k);
        Due.is("7 can be", x.count(9), 7);
        int[] due = {30, 20, 10, 6, 5, 4, 3};
        for (int k = 0; k < due.length; k++) {
            Due.is("how many", x.back(), 6 - k);
            Due.is("DEBT", x.familyOf(0, 1), due[k]);
        }
        Due.is("none", x.back(), -3);
    }

    /** "family(), work(), a TREASURY without FAULT, restore(), where they are not refused, leave none". */
    private static void whatLeavesNone() {
        PaidByTheUnborn x = new PaidByTheUnborn();
        x.image();
        x.rate(1);
        x.family(1, 0, 0);
        Due.is("family()", x.count(9), 0);
        Due.is("none", x.back(), -3);
        x.rate(2);
        x.work(0, 0, 1);
        Due.is("work()", x.count(9), 0);
        Due.is("none, too", x.back(), -3);
        x.rate(3);
        Due.tell(x, "d000000;");
        x.treasury();
        Due.is("a TREASURY, also if all stays as it was", x.count(9), 0);
        Due.is("none either", x.back(), -3);
        x.rate(4);
        x.restore();
        Due.is("restore()", x.count(9), 0);
        Due.is("none at last", x.back(), -3);
        x.rate(6);
        Due.is("one anew", x.back(), 0);
        Due.is("RATE of the image", x.count(3), 5);
    }

    private static void whatLeavesThemAll() {
        PaidByTheUnborn x = new PaidByTheUnborn();
        x.rate(1);
        x.rate(2);
        x.family(0, 0, 0);
        x.family(21, 0, 0);
        x.work(6, 0, 1);
        x.work(0, 0, 0);
        x.work(0, 0, 1000);
        x.restore();
        Due.is("a FAULT of form", x.treasury(), -1000);
        Due.tell(x, "r10;b0;");
        Due.is("a FAULT of sense", x.treasury(), -2004);
        x.image();
        x.row(1);
        x.clear();
        x.feed('r');
        x.judge(0);
        x.order(-1);
        x.all(100);
        Due.is("two still", x.count(9), 2);
        Due.is("one still", x.back(), 1);
        Due.is("RATE of then", x.count(3), 1);
        Due.is("none more", x.back(), 0);
        Due.is("RATE at first", x.count(3), 5);
        x.rate(9);
        x.back();
        x.restore();
        Due.is("the image is not taken back", x.count(3), 2);
    }

    /** "OLDEST: the WORK that was BUILT first of all, LAST: that which was BUILT last; -9 none is". */
    private static void oldest() {
        PaidByTheUnborn x = Due.told("w00001;w00001;w00001;w00001;w00001;w00001;");
        Due.is("none is", x.oldest(0) + x.oldest(1), -18);
        int[] order = {3, 5, 0, 4, 1, 2};
        for (int w : order) {
            x.builds(w);
            Due.is("OLDEST", x.oldest(0), 3);
            Due.is("LAST", x.oldest(1), w);
        }
        x.builds(3);
        Due.is("a refused one is not the LAST", x.oldest(1), 2);
        for (int k = 4; k >= 0; k--) {
            x.back();
            Due.is("LAST, TAKEN BACK", x.oldest(1), order[k]);
        }
        x.back();
        Due.is("none is again", x.oldest(0) + x.oldest(1), -18);
        x.builds(1);
        Due.is("one alone is both", x.oldest(0) * 10 + x.oldest(1), 11);
        Due.tell(x, "b5;b4;");
        x.treasury();
        Due.is("told ones, too", x.oldest(0) * 10 + x.oldest(1), 14);
    }

    /** "ORDER of all WORKS not BUILT (5 at most)": "-4 below -1; -3 more than 5". */
    private static void orderOfNone() {
        PaidByTheUnborn x = new PaidByTheUnborn();
        Due.is("nobody, nothing", x.order(-1), 0);
        Due.is("no first", x.order(0), -9);
        Due.is("below", x.order(-2), -4);
        x.family(1, 0, 0);
        x.debt(0, 100);
        Due.is("no YEAR goes by", x.order(-1), 100);
        x.work(0, 0, 5);
        Due.is("a YEAR goes by: 105 and 5", x.order(-1), 110);
        Due.is("the only one", x.order(0), 0);
        Due.is("no second", x.order(1), -9);
    }

    private static void orderOfFive() {
        PaidByTheUnborn x = Due.told("f0100;r20;w00500;w00400;w00300;w00200;w00100;w00600;");
        Due.is("6 are more than 5", x.order(-1), -3);
        Due.is("below first", x.order(-2), -4);
        Due.is("6 are more than 5, for another i", x.order(7), -3);
        x.builds(5);
        int[] due = {4, 3, 2, 1, 0, -9, -9};
        for (int i = 0; i < due.length; i++) Due.is("the cheapest first: " + i, x.order(i), due[i]);
        Due.is("700, 840; 1040, 1248; 1548, 1857; 2257, 2708; 3208", x.order(-1), 3849);
    }

    /** "of several the first". */
    private static void orderOfSeveral() {
        PaidByTheUnborn x = Due.told("f0100;r00;w00005;w00004;w00003;w00002;w00001;");
        for (int i = 0; i < 5; i++) Due.is("without interest: " + i, x.order(i), i);
        Due.is("15", x.order(-1), 15);
        x.builds(2);
        int[] due = {0, 1, 3, 4, -9};
        for (int i = 0; i < due.length; i++) Due.is("without the BUILT one: " + i, x.order(i), due[i]);
        PaidByTheUnborn z = Due.told("f0100;r00;w00001;w00005;w00004;b0;");
        Due.is("what is BUILT comes in no place", z.order(-1), 10);
        Due.is("the first that is not", z.order(0), 1);
        Due.is("the second", z.order(1), 2);
        PaidByTheUnborn y = Due.told("f0100;r10;w00200;w00100;w00200;w00100;");
        int[] then = {1, 3, 0, 2};
        for (int i = 0; i < then.length; i++) Due.is("of two alike the least first: " + i, y.order(i), then[i]);
    }

    /** "BUILT one each YEAR from now on, each ahead of its YEAR". */
    private static void orderAheadOfEachYear() {
        PaidByTheUnborn x = Due.told("f0110;r00;w00003;w00001;");
        Due.is("3, 2, 3, 2", x.order(-1), 2);
        Due.is("of 2 and of 1 less 1, 3 less 1 the first", x.order(0), 0);
        PaidByTheUnborn y = Due.told("f0120;r00;w00003;w00001;");
        Due.is("3, 1, 2, 0; 1, 0, 3, 1", y.order(-1), 0);
        PaidByTheUnborn z = Due.told("f0120;r00;w00001;w00003;");
        Due.is("the second first", z.order(0), 1);
        Due.is("then the first", z.order(1), 0);
        Due.is("HEADS, YEAR as they were", z.count(2) + z.count(5) + z.count(6), 0);
    }

    /** "JUBILEE: the FAMILY whose DEBT, being 0, makes ALL DEBTS behind n YEARS least, of several the least; -9". */
    private static void jubilee() {
        Due.is("nobody", new PaidByTheUnborn().jubilee(0), -9);
        PaidByTheUnborn x = Due.told("f0100;f0100;f0100;");
        Due.is("all alike", x.jubilee(0), 0);
        x.debt(1, 1);
        Due.is("1", x.jubilee(100), 1);
        x.debt(2, 1);
        Due.is("of two the least", x.jubilee(0), 1);
        x.debt(2, 2);
        Due.is("2", x.jubilee(0), 2);
        PaidByTheUnborn y = Due.told("f0110;f0100;d000100;d100001;r00;");
        Due.is("behind 99 of 100 one is left", y.jubilee(98), 0);
        Due.is("behind 99 both are 1", y.jubilee(99), 0);
        Due.is("behind 100 it is the other", y.jubilee(100), 1);
        Due.is("101", y.jubilee(101), -6);
    }

    /** "FAIR: the most that what two FAMILIES' heads owe now is apart; the FAMILY whose head owes most, ..; -9". */
    private static void fair() {
        PaidByTheUnborn x = new PaidByTheUnborn();
        Due.is("nobody apart", x.fair(0), 0);
        Due.is("nobody", x.fair(1), -9);
        x.family(2, 0, 0);
        x.debt(0, 9);
        Due.is("one is not apart", x.fair(0), 0);
        Due.is("one owes most", x.fair(1), 0);
        x.family(3, 0, 0);
        x.debt(1, 13);
        Due.is("9 by 2 and 13 by 3, up, are alike", x.fair(0), 0);
        Due.is("of two the least", x.fair(1), 0);
        x.family(1, 0, 0);
        Due.is("5 and nothing", x.fair(0), 5);
        x.debt(2, 6);
        Due.is("6 and 5", x.fair(0) * 10 + x.fair(1), 12);
        x.debt(2, 99999);
        Due.is("the most", x.fair(0), 99994);
    }

    /** "PEAK of one: the greatest DEBT behind 0 .. n YEARS; behind how many first". */
    private static void peak() {
        PaidByTheUnborn x = Due.told("f0100;f0110;f0100;d000770;d100100;r05;");
        Due.is("behind 100: the greatest at last", x.peak(0, 100, 0), 99999);
        Due.is("behind 100 first", x.peak(0, 100, 1), 100);
        Due.is("behind 99", x.peak(0, 99, 1), 99);
        Due.is("now alone", x.peak(0, 0, 0), 770);
        Due.is("behind none", x.peak(0, 0, 1), 0);
        Due.is("it is so now already", x.peak(2, 100, 0) + x.peak(2, 100, 1), 0);
        x.rate(0);
        Due.is("it becomes less", x.peak(1, 100, 0), 100);
        Due.is("now", x.peak(1, 100, 1), 0);
        x.rate(20);
        x.debt(0, 99998);
        Due.is("99999 first behind 1, though behind all then", x.peak(0, 100, 1), 1);
        PaidByTheUnborn y = Due.told("f0193;d000200;r10;y01;");
        y.debt(0, 120);
        Due.is("120, 123, in YEAR 3 one more: 126, 120", y.peak(0, 3, 0), 126);
        Due.is("behind 2", y.peak(0, 3, 1), 2);
    }

    /** "INTEREST: all that is added to one's DEBT in n YEARS (not what goes beyond 99999)". */
    private static void interest() {
        PaidByTheUnborn x = Due.told("f0100;f0110;f0100;d000100;d100020;d295238;");
        Due.is("in none", x.interest(0, 0), 0);
        Due.is("in 1", x.interest(0, 1), 5);
        Due.is("1 each, 20 and 20 and 20", x.interest(1, 100), 100);
        Due.is("to the greatest: 4761", x.interest(2, 1), 4761);
        Due.is("no more then", x.interest(2, 100), 4761);
        x.debt(2, 99998);
        Due.is("1 of 4999", x.interest(2, 1), 1);
        x.debt(2, 99999);
        Due.is("none of 4999", x.interest(2, 100), 0);
        x.debt(1, 99999);
        Due.is("what is paid comes anew", x.interest(1, 100), 99);
    }

    /** "DOUBLED: the least n (1 .. 100) behind which DEBT is twice what it is now or more (above 0); -9". */
    private static void doubled() {
        PaidByTheUnborn x = Due.told("f0100;f0110;f0100;f0100;d000100;d100365;d249999;r01;");
        Due.is("behind 100: 1 each", x.doubled(0), 100);
        Due.is("behind 101", x.doubled(1), -9);
        Due.is("nothing", x.doubled(3), -9);
        x.rate(20);
        Due.is("99998 is twice 49999", x.doubled(2), 4);
        x.debt(2, 50000);
        Due.is("100000 is not come to", x.doubled(2), -9);
        x.debt(0, 5);
        Due.is("6, 7, 8, 9, 10", x.doubled(0), 5);
        x.debt(0, 4);
        Due.is("4 bears nothing", x.doubled(0), -9);
        PaidByTheUnborn z = Due.told("f0113;r20;y01;");
        z.debt(0, 23);
        Due.is("26, in YEAR 3 one more: 30, 34, 38, in YEAR 6 one more: 43, 48", z.doubled(0), 6);
        PaidByTheUnborn y = Due.told("f0100;d000010;r20;");
        Due.is("12, 14, 16, 19, 22 is more than twice", y.doubled(0), 5);
    }

    /** "COMMON PAY: the least PAYS (0 .. 9), alike for all, with which ALL DEBTS behind n YEARS are v .. or less". */
    private static void commonPay() {
        PaidByTheUnborn x = Due.told("f0150;f0250;d000100;d100900;r00;");
        Due.is("900 in 100 YEARS", x.commonPay(100, 0), 5);
        Due.is("902 in 50 YEARS at 9", x.commonPay(50, 0), 9);
        Due.is("in 49 YEARS 18 are left", x.commonPay(49, 18), 9);
        Due.is("17 are too few", x.commonPay(49, 17), -9);
        Due.is("1000 now", x.commonPay(0, 1000), 0);
        Due.is("999 now", x.commonPay(0, 999), -9);
        Due.is("999 in a YEAR", x.commonPay(1, 999), 1);
        x.debt(0, 99999);
        x.debt(1, 0);
        Due.is("99999", x.commonPay(0, 99999), 0);
        x.debt(1, 1);
        Due.is("100000", x.commonPay(0, 99999), -9);
        Due.is("nobody", new PaidByTheUnborn().commonPay(0, 0), 0);
        Due.is("PAYS are as they were", x.familyOf(0, 2) + x.familyOf(1, 2), 10);
    }

    /** "BEST BIRTHS (0 .. 9) of one: with which a head of it owes least behind n YEARS, of several the least". */
    private static void bestBirths() {
        PaidByTheUnborn x = Due.told("f0105;f2001;d000100;d100100;r00;");
        Due.is("now all are alike", x.bestBirths(0, 0), 0);
        Due.is("100 on: 19 are born of 1, 2, 3, 4, 5", x.bestBirths(0, 100), 1);
        Due.is("20 HEADS are 20", x.bestBirths(1, 100), 0);
        x.debt(0, 0);
        Due.is("nothing is nothing", x.bestBirths(0, 100), 0);
        x.years(8);
        x.debt(0, 100);
        Due.is("in YEAR 9 alone: 1, 3, 9", x.bestBirths(0, 1), 1);
        Due.is("BIRTHS are as they were", x.familyOf(0, 3), 5);
        PaidByTheUnborn y = Due.told("f0100;d000003;r00;");
        Due.is("3 by 2, up, is 2; by 3 it is 1: in 4 YEARS each 2", y.bestBirths(0, 4), 1);
        Due.is("in 2 YEARS each one", y.bestBirths(0, 2), 1);
        PaidByTheUnborn z = Due.told("f0190;d000100;r20;");
        Due.is("the first born pays at once what the next one would", z.bestBirths(0, 3), 1);
    }

    /** "LUMP: one pays v (0 .. 9999) more at the end of each YEAR (0 at least): the least n (0 .. 100) ..; -9". */
    private static void lump() {
        PaidByTheUnborn x = Due.told("f0100;f0110;f0100;d000100;d100200;r00;");
        Due.is("1 each, behind 100", x.lump(0, 1), 100);
        Due.is("1 and 1, behind 100", x.lump(1, 1), 100);
        Due.is("now", x.lump(2, 0), 0);
        Due.is("never", x.lump(0, 0), -9);
        Due.is("more than all", x.lump(0, 101), 1);
        Due.is("just all", x.lump(0, 100), 1);
        Due.is("all but one", x.lump(0, 99), 2);
        x.debt(0, 101);
        x.debt(1, 201);
        Due.is("behind 101", x.lump(0, 1), -9);
        Due.is("behind 101, too", x.lump(1, 1), -9);
        x.debt(0, 99999);
        Due.is("9999, 11 times", x.lump(0, 9999), 11);
        Due.is("10000", x.lump(0, 10000), -6);
        PaidByTheUnborn y = Due.told("f0113;d000009;r00;y01;");
        Due.is("8, 6, 4 and one more in YEAR 3, 1, 0", y.lump(0, 1), 4);
        y.debt(0, 7);
        Due.is("5, 3 and one more in YEAR 3, 0", y.lump(0, 1), 3);
        x.rate(20);
        x.debt(0, 99);
        Due.is("19 of 99 come first: 118", x.lump(0, 117), 2);
        Due.is("118 of 118", x.lump(0, 118), 1);
    }

    /** "CROSSES: the least n (0 .. 100) behind which a head of the first owes less than one of the other; -9". */
    private static void crosses() {
        PaidByTheUnborn x = Due.told("f0110;f0200;d000010;d100019;r00;");
        Due.is("10 is not less than 10, 9 is", x.crosses(0, 1), 1);
        Due.is("never the other way", x.crosses(1, 0) < 0 ? 1 : 0, 1);
        x.debt(0, 9);
        Due.is("now", x.crosses(0, 1), 0);
        x.debt(1, 200);
        x.debt(0, 199);
        Due.is("behind 100: 99", x.crosses(0, 1), 100);
        x.debt(0, 200);
        Due.is("behind 101", x.crosses(0, 1), -9);
        x.debt(0, 0);
        x.debt(1, 0);
        Due.is("nothing is not less than nothing", x.crosses(0, 1), -9);
        Due.is("one twice", x.crosses(0, 0), -1);
        PaidByTheUnborn y = Due.told("f0101;f0100;d000010;d100010;r00;");
        Due.is("by who is born", y.crosses(0, 1), 1);
    }

    /** "HEIR: DEBT of one goes to all others, shared as a BRIDGE's (by HEADS): ..; -9 there are none". */
    private static void heir() {
        PaidByTheUnborn x = Due.told("f0400;");
        x.debt(0, 40);
        Due.is("there are none", x.heir(0), -9);
        x.family(20, 0, 0);
        Due.is("one: 40 by 20", x.heir(0), 2);
        Due.is("the other leaves nothing: 40 by 4", x.heir(1), 10);
        x.family(1, 0, 0);
        Due.is("38 and 1, and 1 to the first: 39 by 20", x.heir(0), 2);
        x.debt(2, 1);
        Due.is("38 and 1, and 1 to the first: 2 by 1", x.heir(0), 2);
        x.debt(2, 5);
        Due.is("6 by 1", x.heir(0), 6);
        x.debt(1, 99999);
        x.debt(2, 99999);
        Due.is("99999 at most", x.heir(1), 99999);
        Due.is("nothing goes", x.count(5), 40 + 99999 + 99999);
        PaidByTheUnborn y = Due.told("f0100;f0100;f0100;d000001;");
        Due.is("what is left over goes to the first of the others", y.heir(0), 1);
        y.debt(2, 1);
        Due.is("1 and 1", y.heir(0), 1);
        y.debt(1, 1);
        Due.is("2 and 1", y.heir(0), 2);
    }

    /** "RANK: the i-th FAMILY by what its head owes (the most first, of several the least number); -9". */
    private static void rank() {
        Due.is("nobody", new PaidByTheUnborn().rank(0), -9);
        PaidByTheUnborn x = Due.told("f0100;f0200;f0300;f0400;f0500;d000004;d100009;d200013;d300020;d400021;");
        int[] due = {1, 2, 3, 4, 0, -9, -9};
        for (int i = 0; i < due.length; i++) Due.is("4, 5, 5, 5, 5 at " + i, x.rank(i), due[i]);
        x.debt(4, 26);
        Due.is("6", x.rank(0), 4);
        Due.is("5", x.rank(1), 1);
        Due.is("4", x.rank(4), 0);
        for (int f = 0; f < 5; f++) x.debt(f, 0);
        for (int i = 0; i < 5; i++) Due.is("nothing at " + i, x.rank(i), i);
        Due.is("below", x.rank(-1), -4);
    }

    /** "HALF: the least n (0 .. 100) behind which ALL DEBTS are half of now or less; -9". */
    private static void half() {
        PaidByTheUnborn x = Due.told("f0110;f0100;r00;");
        Due.is("half of nothing is nothing", x.half(), 0);
        int[] debts = {1, 2, 3, 4, 5, 199, 200, 201};
        int[] due = {1, 1, 2, 2, 3, 100, 100, -9};
        for (int k = 0; k < debts.length; k++) {
            x.debt(0, debts[k]);
            Due.is("half of " + debts[k], x.half(), due[k]);
        }
        x.debt(0, 10);
        x.debt(1, 10);
        Due.is("half of all", x.half(), 10);
        x.debt(1, 11);
        Due.is("11 of 21 are more", x.half(), -9);
        x.debt(1, 9);
        Due.is("9 of 19", x.half(), 10);
        Due.is("of nobody", new PaidByTheUnborn().half(), 0);
        PaidByTheUnborn y = Due.told("f2090;f0100;d099999;d199999;r20;");
        Due.is("never", y.half(), -9);
    }

    /** "It is RESTORED: YEAR. -3 there is none". */
    private static void imageOfNothing() {
        PaidByTheUnborn x = new PaidByTheUnborn();
        Due.is("there is none", x.restore(), -3);
        Due.is("it is taken", x.image(), 0);
        x.family(1, 1, 1);
        x.work(0, 0, 1);
        x.builds(0);
        x.years(60);
        x.rate(0);
        Due.is("RESTORED", x.restore(), 0);
        int[] due = {0, 0, 0, 5, 0, 0, 0, 0, 0, 0};
        for (int what = 0; what < due.length; what++) Due.is("count " + what, x.count(what), due[what]);
        Due.is("none is BUILT", x.oldest(0), -9);
    }

    /** "all that there is of I, but it, letters, the ROW, REFUSALS". */
    private static void imageOfAll() {
        PaidByTheUnborn x = Due.told("f0519;f2000;w20009;w39010;b1;");
        x.debt(1, 99999);
        x.years(18);
        x.rate(3);
        Due.tell(x, "abc");
        x.row(7);
        x.familyOf(5, 0);
        Due.is("taken", x.image(), 18);
        Due.is("it can be TAKEN BACK as ahead of it", x.back(), 2);
        int[] ahead = new int[5];
        x.rate(3);
        for (int what = 0; what < 5; what++) ahead[what] = x.familyOf(0, what);
        x.builds(0);
        x.years(9);
        x.debt(0, 12345);
        x.rate(0);
        x.family(2, 2, 2);
        x.work(5, 5, 5);
        x.feed('d');
        x.row(7);
        x.familyOf(5, 0);
        Due.is("RESTORED", x.restore(), 18);
        for (int what = 0; what < 5; what++) Due.is("of a FAMILY " + what, x.familyOf(0, what), ahead[what]);
        int[] due = {2, 2, 18, 3, 27, ahead[1] + 99999, 2, 4, 2, 0, -9, 2};
        for (int what = 0; what < due.length; what++) Due.is("count " + what, x.count(what), due[what]);
        Due.is("KIND", x.workOf(0, 0), 2);
        Due.is("OLDEST, LAST", x.oldest(0) * 10 + x.oldest(1), 11);
        x.debt(0, 49);
        Due.is("the ROW is 7, 7: 49 and 43 of 7 HEADS", x.judge(0), -9);
        Due.is("the letters are abcd", x.treasury(), -1000);
    }

    /** The image stays as it was taken, whatever comes behind it, until another is taken. */
    private static void imageStays() {
        PaidByTheUnborn x = Due.told("f0100;");
        x.debt(0, 7);
        x.image();
        for (int k = 0; k < 3; k++) {
            x.debt(0, 50 + k);
            x.years(20);
            x.builds(0);
            x.treasury();
            Due.is("RESTORED", x.restore(), 0);
            Due.is("7 is owed", x.familyOf(0, 1), 7);
        }
        x.years(5);
        Due.is("another", x.image(), 5);
        x.back();
        Due.is("the other one", x.restore(), 5);
        x.back();
        x.restore();
        Due.is("also behind a refused one", x.restore(), 5);
    }

    /** "nothing changes but how many there were"; "(.. -9 is an answer)": no -9 is counted. */
    private static void refusalsAreCounted() {
        PaidByTheUnborn x = Due.told("f0100;");
        for (int k = 1; k <= 20; k++) {
            x.solvent(1);
            Due.is("NOBODY", x.count(11), k);
        }
        x.child(1, 0);
        Due.is("a long's, too", x.count(11), 21);
        x.births(0, 0, 0, 2, 2);
        Due.is("OTHER", x.count(12), 1);
        x.back();
        Due.is("STATE", x.count(13), 1);
        x.births(0, -1, 0, 2, 0);
        Due.is("BELOW", x.count(14), 1);
        x.births(0, 9, 0, 2, 0);
        Due.is("ROOM", x.count(16), 1);
        x.heir(0);
        x.rank(7);
        x.oldest(0);
        x.doubled(0);
        x.order(0);
        x.count(99);
        x.treasury();
        int[] due = {21, 1, 1, 1, 0, 1};
        for (int k = 0; k < due.length; k++) Due.is("no more of " + (-1 - k), x.count(11 + k), due[k]);
    }
}
