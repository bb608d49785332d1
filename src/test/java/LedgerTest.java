/** Promises 1, 4 to 12 and 50. */
final class LedgerTest {
    public static void main(String[] args) {
        newObject();
        families();
        works();
        building();
        years();
        caps();
        debtAndRate();
        back();
        forgotten();
        Due.end();
    }

    private static void newObject() {
        PaidByTheUnborn x = new PaidByTheUnborn();
        int[] due = {0, 0, 0, 5, 0, 0, 0, 0, 0, 0, -9, 0, 0, 0, 0, 0, 0, -9, -9};
        for (int what = 0; what < due.length; what++) Due.is("new count " + what, x.count(what), due[what]);
        Due.is("count below", x.count(-1), -9);
        Due.is("count far below", x.count(Integer.MIN_VALUE), -9);
        Due.is("count far above", x.count(Integer.MAX_VALUE), -9);
        Due.is("counting is no refusal", x.count(12), 0);
    }

    private static void families() {
        PaidByTheUnborn x = new PaidByTheUnborn();
        Due.is("first family", x.family(1, 0, 0), 0);
        Due.is("second family", x.family(20, 9, 9), 1);
        Due.is("third family", x.family(3, 4, 5), 2);
        x.debt(2, 10);
        int[] due = {3, 10, 4, 5, 4};
        for (int what = 0; what < 5; what++) Due.is("familyOf " + what, x.familyOf(2, what), due[what]);
        Due.is("all HEADS", x.count(4), 24);
        Due.refused(x, "familyOf nobody", () -> x.familyOf(3, 9), -1);
        Due.refused(x, "familyOf below nobody", () -> x.familyOf(-1, 0), -1);
        Due.refused(x, "familyOf other", () -> x.familyOf(2, 5), -2);
        Due.refused(x, "familyOf below other", () -> x.familyOf(2, -1), -2);
        Due.refused(x, "no heads, too much pay", () -> x.family(0, 10, 0), -4);
        Due.refused(x, "pay below", () -> x.family(1, -1, 0), -4);
        Due.refused(x, "births below", () -> x.family(21, 0, -1), -4);
        Due.refused(x, "heads above", () -> x.family(21, 0, 0), -6);
        Due.refused(x, "pay above", () -> x.family(1, 10, 0), -6);
        Due.refused(x, "births above", () -> x.family(1, 0, 10), -6);
        x.family(1, 1, 1);
        Due.is("fifth family", x.family(1, 1, 1), 4);
        Due.refused(x, "sixth family", () -> x.family(1, 1, 1), -6);
        Due.refused(x, "sixth family below", () -> x.family(0, 1, 1), -4);
    }

    private static void works() {
        PaidByTheUnborn x = Due.three();
        int[] due = {100, 103, 200, 51, 197, 203};
        for (int kind = 0; kind < 6; kind++) {
            Due.is("KIND", x.workOf(kind, 0), kind);
            Due.is("FIGURE", x.workOf(kind, 1), 3);
            Due.is("COST", x.workOf(kind, 2), 100);
            Due.is("DUE of kind " + kind, x.workOf(kind, 3), due[kind]);
            Due.is("BUILT", x.workOf(kind, 4), 0);
        }
        x.builds(3);
        Due.is("BUILT then", x.workOf(3, 4), 1);
        Due.refused(x, "workOf nobody", () -> x.workOf(6, 9), -1);
        Due.refused(x, "workOf below nobody", () -> x.workOf(-1, 0), -1);
        Due.refused(x, "workOf other", () -> x.workOf(0, 5), -2);
        Due.refused(x, "seventh work", () -> x.work(0, 0, 1), -6);
        PaidByTheUnborn y = new PaidByTheUnborn();
        Due.is("first work", y.work(4, 9, 1), 0);
        Due.is("a pen of 1 at least", y.workOf(0, 3), 1);
        Due.is("second work", y.work(3, 0, 1), 1);
        Due.is("a cradle of nothing", y.workOf(1, 3), 0);
        Due.is("dearest", y.work(5, 9, 999), 2);
        Due.is("dearest DUE", y.workOf(2, 3), 2007);
        Due.refused(y, "no such KIND", () -> y.work(6, -1, 0), -2);
        Due.refused(y, "no KIND below", () -> y.work(-1, 0, 1), -2);
        Due.refused(y, "FIGURE below", () -> y.work(0, -1, 1000), -4);
        Due.refused(y, "COST below", () -> y.work(0, 10, 0), -4);
        Due.refused(y, "FIGURE above", () -> y.work(0, 10, 1), -6);
        Due.refused(y, "COST above", () -> y.work(0, 0, 1000), -6);
    }

    /** DEBTS of the three, behind the building of each KIND alone, from 50, 20, 20. */
    private static void building() {
        int[][] due = {{84, 53, 53}, {82, 76, 35}, {50, 220, 20}, {84, 20, 37}, {50, 217, 20}, {113, 129, 51}};
        for (int kind = 0; kind < 6; kind++) {
            PaidByTheUnborn x = Due.three();
            int sum = due[kind][0] + due[kind][1] + due[kind][2];
            Due.is("builds " + kind, x.builds(kind), sum);
            for (int f = 0; f < 3; f++) Due.is("owed for " + kind, x.familyOf(f, 1), due[kind][f]);
            Due.is("BUILT ones", x.count(6), 1 << kind);
            Due.is("ALL DEBTS", x.count(5), sum);
            int built = kind;
            Due.refused(x, "BUILT twice", () -> x.builds(built), -3);
        }
        PaidByTheUnborn y = Due.told("f0330;f0330;f0110;w30101;w20050;w40050;");
        Due.is("a cradle where none has BIRTHS is as a bridge", y.builds(0), 50);
        Due.is("its left over to the first", y.familyOf(0, 1), 22);
        Due.is("its second", y.familyOf(1, 1), 21);
        Due.is("its last", y.familyOf(2, 1), 7);
        y.builds(1);
        Due.is("a war's of several the least", y.familyOf(0, 1), 122);
        y.builds(2);
        Due.is("a pen's of the least DEBT", y.familyOf(2, 1), 107);
        Due.refused(y, "no such WORK", () -> y.builds(3), -1);
        Due.refused(y, "no WORK below", () -> y.builds(-1), -1);
        PaidByTheUnborn z = new PaidByTheUnborn();
        z.work(0, 0, 10);
        Due.is("without FAMILIES", z.builds(0), 0);
        Due.is("BUILT nonetheless", z.count(6), 1);
    }

    private static void years() {
        PaidByTheUnborn x = Due.told("f0232;d000100;");
        int[] debts = {99, 97, 92, 87};
        int[] heads = {2, 3, 3, 4};
        for (int k = 0; k < 4; k++) {
            Due.is("a YEAR", x.years(1), debts[k]);
            Due.is("HEADS", x.familyOf(0, 0), heads[k]);
            Due.is("YEAR", x.count(2), k + 1);
        }
        Due.is("a head owes, up", x.familyOf(0, 4), 22);
        Due.refused(x, "no years", () -> x.years(0), -4);
        Due.refused(x, "years above", () -> x.years(61), -6);
        for (int k = 0; k < 16; k++) x.years(60);
        Due.is("YEAR", x.count(2), 964);
        Due.is("HEADS at most", x.familyOf(0, 0), 20);
        Due.refused(x, "YEAR above", () -> x.years(36), -6);
        Due.is("to the last YEAR", x.years(35), 0);
        Due.is("the last YEAR", x.count(2), 999);
        Due.refused(x, "YEAR 1000", () -> x.years(1), -6);
        Due.is("in mind it goes on", x.behind(0, 100, 1), 20);
    }

    private static void caps() {
        PaidByTheUnborn x = Due.told("f0190;f0100;d099995;d199995;w05010;");
        Due.is("DEBTS at most", x.builds(0), 199998);
        Due.is("a YEAR of the greatest", x.years(1), 199989);
        Due.is("the payment comes behind", x.familyOf(0, 1), 99990);
        x.debt(0, 5);
        x.years(1);
        Due.is("0 at least", x.familyOf(0, 1), 0);
    }

    private static void debtAndRate() {
        PaidByTheUnborn x = Due.three();
        Due.is("debt was", x.debt(1, 99999), 20);
        Due.is("debt was then", x.debt(1, 0), 99999);
        Due.refused(x, "debt of nobody", () -> x.debt(3, -1), -1);
        Due.refused(x, "debt below", () -> x.debt(0, -1), -4);
        Due.refused(x, "debt above", () -> x.debt(0, 100000), -6);
        Due.is("rate was", x.rate(20), 5);
        Due.is("rate was then", x.rate(0), 20);
        Due.is("RATE", x.count(3), 0);
        Due.refused(x, "rate below", () -> x.rate(-1), -4);
        Due.refused(x, "rate above", () -> x.rate(21), -6);
    }

    private static void back() {
        PaidByTheUnborn x = Due.three();
        Due.refused(x, "nothing to take back", () -> x.back(), -3);
        x.builds(0);
        x.years(15);
        x.rate(7);
        x.debt(2, 20);
        Due.is("what can be TAKEN BACK", x.count(9), 4);
        Due.is("a DEBT back", x.back(), 3);
        Due.is("the rate back", x.back(), 2);
        Due.is("RATE", x.count(3), 5);
        Due.is("the years back", x.back(), 1);
        Due.is("YEAR", x.count(2), 0);
        Due.is("HEADS", x.count(4), 13);
        Due.is("ALL DEBTS", x.count(5), 190);
        Due.is("the work back", x.back(), 0);
        Due.is("BUILT", x.count(6), 0);
        Due.is("none is oldest", x.oldest(0), -9);
        Due.is("ALL DEBTS ahead of it", x.count(5), 90);
        for (int k = 1; k <= 10; k++) x.rate(k);
        Due.is("8 at most", x.count(9), 8);
        for (int k = 7; k >= 0; k--) Due.is("back of many", x.back(), k);
        Due.is("the oldest stays", x.count(3), 2);
        Due.refused(x, "nothing more", () -> x.back(), -3);
        x.rate(2);
        Due.is("as it was counts, too", x.count(9), 1);
        x.rate(21);
        Due.is("a refused one does not", x.count(9), 1);
    }

    private static void forgotten() {
        PaidByTheUnborn x = new PaidByTheUnborn();
        x.rate(1);
        x.family(1, 1, 1);
        Due.is("none behind a family", x.count(9), 0);
        x.rate(1);
        x.family(0, 1, 1);
        Due.is("one behind a refused family", x.count(9), 1);
        x.work(0, 0, 1);
        Due.is("none behind a work", x.count(9), 0);
        x.rate(1);
        x.work(9, 0, 1);
        Due.is("one behind a refused work", x.count(9), 1);
        Due.tell(x, "r99;");
        x.treasury();
        Due.is("one behind a FAULT", x.count(9), 1);
        x.restore();
        Due.is("one behind a refused restore", x.count(9), 1);
        Due.tell(x, "r09;");
        x.treasury();
        Due.is("none behind a TREASURY", x.count(9), 0);
        x.rate(1);
        x.image();
        Due.is("one behind an image", x.count(9), 1);
        x.restore();
        Due.is("none behind a restore", x.count(9), 0);
    }
}
