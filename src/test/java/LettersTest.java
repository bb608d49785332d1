/** Promises 2 and 3. */
final class LettersTest {
    public static void main(String[] args) {
        feed();
        whole();
        form();
        sense();
        full();
        Due.end();
    }

    private static void feed() {
        PaidByTheUnborn x = new PaidByTheUnborn();
        Due.is("a letter", x.feed(0), 1);
        Due.is("another", x.feed(255), 2);
        Due.refused(x, "letter below", () -> x.feed(-1), -4);
        Due.refused(x, "letter above", () -> x.feed(256), -6);
        for (int k = 3; k <= 96; k++) Due.is("letters", x.feed('f'), k);
        Due.refused(x, "97 letters", () -> x.feed('f'), -6);
        Due.refused(x, "97 letters, below", () -> x.feed(-1), -4);
        Due.is("letters", x.count(7), 96);
        Due.is("a FAULT at once", x.treasury(), -1000);
        Due.is("letters no more", x.count(7), 0);
    }

    private static void whole() {
        PaidByTheUnborn x = new PaidByTheUnborn();
        Due.tell(x, "f0123;f2099;w19999;w00001;b1;r20;y02;d000070;d199999;");
        Due.is("STATEMENTS", x.treasury(), 9);
        int[] counts = {2, 2, 2, 20, 21, 100069, 2, 0};
        for (int what = 0; what < counts.length; what++) Due.is("told count " + what, x.count(what), counts[what]);
        Due.is("FIGURE", x.workOf(0, 1), 9);
        Due.is("COST", x.workOf(0, 2), 999);
        Due.is("PAYS", x.familyOf(0, 2), 2);
        Due.is("BIRTHS", x.familyOf(0, 3), 3);
        Due.tell(x, "y60;");
        Due.is("60 YEARS", x.treasury(), 1);
        Due.is("YEAR", x.count(2), 62);
    }

    private static void fault(String text, int due) {
        PaidByTheUnborn x = Due.told("f0111;w00001;w00001;b0;");
        int debts = x.count(5);
        Due.tell(x, text);
        Due.is("treasury of " + text, x.treasury(), due);
        Due.is("nothing comes of " + text, x.count(0) + x.count(1) + x.count(2), 3);
        Due.is("RATE behind " + text, x.count(3), 5);
        Due.is("ALL DEBTS behind " + text, x.count(5), debts);
        Due.is("BUILT behind " + text, x.count(6), 1);
        Due.is("letters behind " + text, x.count(7), 0);
        for (int what = 11; what <= 16; what++) Due.is("refusals behind " + text, x.count(what), 0);
    }

    private static void form() {
        fault("", -1000);
        fault(";", -1000);
        fault("x", -1000);
        fault("F0111;", -1000);
        fault("0", -1000);
        fault("f", -1001);
        fault("fx", -1001);
        fault("f01;", -1003);
        fault("f0111", -1005);
        fault("f01111;", -1005);
        fault("w0000", -1005);
        fault("w00000", -1006);
        fault("b;", -1001);
        fault("b11", -1002);
        fault("r1;", -1002);
        fault("y1:", -1002);
        fault("y1/", -1002);
        fault("d00000;", -1006);
        fault("d000000 ", -1007);
        fault("r07;;", -1004);
        fault("r07;b", -1005);
        fault("r99;b1;q", -1007);
    }

    private static void sense() {
        fault("f0011;", -2000);
        fault("f2111;", -2000);
        fault("w60001;", -2000);
        fault("w00000;", -2000);
        fault("b0;", -2000);
        fault("b1;b1;", -2003);
        fault("b2;", -2000);
        fault("r21;", -2000);
        fault("r20;y00;", -2004);
        fault("y61;", -2000);
        fault("d100000;", -2000);
        fault("f0111;d100007;d200000;", -2014);
        fault("f0111;f0111;f0111;f0111;f0111;", -2024);
        fault("w00001;w00001;w00001;w00001;w00001;", -2028);
        fault("y60;y60;y60;y60;y60;y60;y60;y60;y60;y60;y60;y60;y60;y60;y60;y60;y40;", -2064);
        fault("b1;b2;b9;", -2003);
    }

    private static void full() {
        PaidByTheUnborn x = new PaidByTheUnborn();
        for (int k = 0; k < 24; k++) Due.tell(x, "r01;");
        Due.is("96 letters", x.count(7), 96);
        Due.is("24 STATEMENTS", x.treasury(), 24);
        for (int k = 0; k < 23; k++) Due.tell(x, "r01;");
        Due.tell(x, "r010");
        Due.is("a ; lacks", x.treasury(), -1095);
        for (int k = 0; k < 23; k++) Due.tell(x, "r01;");
        Due.tell(x, "w000");
        Due.is("the end lacks", x.treasury(), -1096);
    }
}
