/** Promises 2 and 3. */
final class LettersTest {
    public static void main(String[] args) {
        feed();
        whole();
        form();
        sense();
        full();
        fedAgain();
        firstLetters();
        wrongLetters();
        cutShort();
        numbers();
        aheadInTheText();
        nothingComes();
        roomOfLetters();
        Due.end();
    }

    private static void feed() {
        PaidByTheUnborn x = new PaidByTheUnborn();
        Due.is("a letter", x.feed(0), 1);
        Due.is("another", x.feed(255), 2);
        Due.refused(x, "letter below", () -> x.feed(-1), -4);
        Due.refused(x, "letter above", () -> x.feed(256), -6);
        for (int k = 3; k <= 96; k++) Due.is("letters", x.feed('f'), k);
        Due.refused(x, "97 letters", () -> x.feed('f'), -6);
        Due.refused(x, "97 letters, below", () -> x.feed(-1), -4);
        Due.is("letters", x.count(7), 96);
        Due.is("a FAULT at once", x.treasury(), -1000);
        Due.is("letters no more", x.count(7), 0);
    }

    private static void whole() {
        PaidByTheUnborn x = new PaidByTheUnborn();
        Due.tell(x, "f0123;f2099;w19999;w00001;b1;r20;y02;d000070;d199999;");
        Due.is("STATEMENTS", x.treasury(), 9);
        int[] counts = {2, 2, 2, 20, 21, 100069, 2, 0};
        for (int what = 0; what < counts.length; what++) Due.is("told count " + what, x.count(what), counts[what]);
        Due.is("FIGURE", x.workOf(0, 1), 9);
        Due.is("COST", x.workOf(0, 2), 999);
        Due.is("PAYS", x.familyOf(0, 2), 2);
        Due.is("BIRTHS", x.familyOf(0, 3), 3);
        Due.tell(x, "y60;");
        Due.is("60 YEARS", x.treasury(), 1);
        Due.is("YEAR", x.count(2), 62);
    }

    private static void fault(String text, int due) {
        PaidByTheUnborn x = Due.told("f0111;w00001;w00001;b0;");
        int debts = x.count(5);
        Due.tell(x, text);
        Due.is("treasury of " + text, x.treasury(), due);
        Due.is("nothing comes of " + text, x.count(0) + x.count(1) + x.count(2), 3);
        Due.is("RATE behind " + text, x.count(3), 5);
        Due.is("ALL DEBTS behind " + text, x.count(5), debts);
        Due.is("BUILT behind " + text, x.count(6), 1);
        Due.is("letters behind " + text, x.count(7), 0);
        for (int what = 11; what <= 16; what++) Due.is("refusals behind " + text, x.count(what), 0);
    }

    private static void form() {
        fault("", -1000);
        fault(";", -1000);
        fault("x", -1000);
        fault("F0111;", -1000);
        fault("0", -1000);
        fault("f", -1001);
        fault("fx", -1001);
        fault("f01;", -1003);
        fault("f0111", -1005);
        fault("f01111;", -1005);
        fault("w0000", -1005);
        fault("w00000", -1006);
        fault("b;", -1001);
        fault("b11", -1002);
        fault("r1;", -1002);
        fault("y1:", -1002);
        fault("y1/", -1002);
        fault("d00000;", -1006);
        fault("d000000 ", -1007);
        fault("r07;;", -1004);
        fault("r07;b", -1005);
        fault("r99;b1;q", -1007);
    }

    private static void sense() {
        fault("f0011;", -2000);
        fault("f2111;", -2000);
        fault("w60001;", -2000);
        fault("w00000;", -2000);
        fault("b0;", -2000);
        fault("b1;b1;", -2003);
        fault("b2;", -2000);
        fault("r21;", -2000);
        fault("r20;y00;", -2004);
        fault("y61;", -2000);
        fault("d100000;", -2000);
        fault("f0111;d100007;d200000;", -2014);
        fault("f0111;f0111;f0111;f0111;f0111;", -2024);
        fault("w00001;w00001;w00001;w00001;w00001;", -2028);
        fault("y60;y60;y60;y60;y60;y60;y60;y60;y60;y60;y60;y60;y60;y60;y60;y60;y40;", -2064);
        fault("b1;b2;b9;", -2003);
    }

    private static void full() {
        PaidByTheUnborn x = new PaidByTheUnborn();
        for (int k = 0; k < 24; k++) Due.tell(x, "r01;");
        Due.is("96 letters", x.count(7), 96);
        Due.is("24 STATEMENTS", x.treasury(), 24);
        for (int k = 0; k < 23; k++) Due.tell(x, "r01;");
        Due.tell(x, "r010");
        Due.is("a ; lacks", x.treasury(), -1095);
        for (int k = 0; k < 23; k++) Due.tell(x, "r01;");
        Due.tell(x, "w000");
        Due.is("the end lacks", x.treasury(), -1096);
    }

    private static int told(String text) {
        PaidByTheUnborn x = new PaidByTheUnborn();
        Due.tell(x, text);
        return x.treasury();
    }

    /** "A letter comes: how many there are"; "The letters, which are no more then (with a FAULT neither)". */
    private static void fedAgain() {
        PaidByTheUnborn x = new PaidByTheUnborn();
        for (int k = 1; k <= 4; k++) Due.is("fed", x.feed("r09;".charAt(k - 1)), k);
        Due.is("refused ones are no letters", x.feed(256) + x.feed(-1), -10);
        Due.is("4 letters", x.count(7), 4);
        Due.is("a TREASURY", x.treasury(), 1);
        Due.is("no letters", x.count(7), 0);
        Due.is("no TREASURY more", x.treasury(), -1000);
        Due.is("the first again", x.feed('r'), 1);
        Due.is("a FAULT", x.treasury(), -1001);
        Due.is("no letters either", x.count(7), 0);
        Due.tell(x, "r99;");
        Due.is("a FAULT of the other kind", x.treasury(), -2000);
        Due.is("no letters either, then", x.count(7), 0);
        Due.tell(x, "r10;");
        Due.is("places begin anew", x.treasury(), 1);
        Due.is("RATE", x.count(3), 10);
    }

    /** "The place of the first letter with which no TREASURY can go on", of all letters 0 .. 255. */
    private static void firstLetters() {
        for (int letter = 0; letter <= 255; letter++) {
            String c = String.valueOf((char) letter);
            boolean digit = letter >= '0' && letter <= '9';
            Due.is("first " + letter, told(c), "fwbryd".contains(c) ? -1001 : -1000);
            Due.is("first of a second " + letter, told("r05;" + c), "fwbryd".contains(c) ? -1005 : -1004);
            Due.is("a digit " + letter, told("b" + c), digit ? -1002 : -1001);
            Due.is("the end " + letter, told("b0" + c), letter == ';' ? -2000 : -1002);
        }
    }

    /** The same at each place of each STATEMENT, with the letters next to digits and to ";". */
    private static void wrongLetters() {
        for (String one : new String[] {"f0100;", "w00001;", "b0;", "r00;", "y01;", "d000000;"}) {
            for (int place = 0; place < one.length(); place++) {
                boolean end = place == one.length() - 1;
                for (String wrong : new String[] {place == 0 || end ? "0" : ";", "/", ":", "<", "F", " ", "\0", "\u00ff"}) {
                    String text = one.substring(0, place) + wrong + one.substring(place + 1);
                    Due.is("treasury of " + text, told(text), -1000 - place);
                    Due.is("behind another, " + text, told("f0100;" + text), -1006 - place);
                }
            }
            Due.is("a digit more than in " + one, told(one.replace(";", "0;")), -1000 - one.length() + 1);
        }
    }

    /** "(the end, if something lacks)". */
    private static void cutShort() {
        for (String one : new String[] {"f0100;", "w00001;", "b0;", "r00;", "y01;", "d000000;"}) {
            for (int length = 0; length < one.length(); length++) {
                Due.is("cut short " + one, told(one.substring(0, length)), -1000 - length);
                if (length > 0) Due.is("cut short behind r05; " + one, told("r05;" + one.substring(0, length)), -1004 - length);
            }
        }
    }

    /** Each number of each STATEMENT, the least, the greatest and those beyond. */
    private static void numbers() {
        for (String fits : new String[] {"f0100;", "f2099;", "w00001;", "w09001;", "w50001;", "w59999;", "r00;", "r20;",
                "y01;", "y60;", "f0100;d000000;", "f0100;d099999;", "w00001;b0;"}) {
            Due.is("treasury of " + fits, told(fits), fits.length() > 8 ? 2 : 1);
        }
        for (String not : new String[] {"f0000;", "f2100;", "f9999;", "w60001;", "w99999;", "w00000;", "w59000;", "r21;",
                "r99;", "y00;", "y61;", "y99;", "b0;", "b9;", "d000000;", "d999999;"}) {
            Due.is("treasury of " + not, told(not), -2000);
            Due.is("behind another, " + not, told("r05;r05;" + not), -2008);
            Due.is("ahead of another, " + not, told(not + "r05;"), -2000);
        }
        String five = "f0100;f0100;f0100;f0100;f0100;";
        String six = "w00001;w00001;w00001;w00001;w00001;w00001;";
        Due.is("the fifth's DEBT", told(five + "d400001;"), 6);
        Due.is("a sixth's DEBT", told(five + "d500001;"), -2030);
        Due.is("the sixth is BUILT", told(six + "b5;"), 7);
        Due.is("a seventh is not", told(six + "b6;"), -2042);
        Due.is("room for 5", told(five), 5);
        Due.is("no room for a sixth", told(five + "f0100;"), -2030);
        Due.is("room for 6", told(six), 6);
        Due.is("no room for a seventh", told(six + "w00001;"), -2042);
        Due.is("room for all of them", told(five + six), 11);
    }

    /** "that, behind all ahead of it in the text, is not as it must be". */
    private static void aheadInTheText() {
        Due.is("a WORK ahead", told("w00001;b0;"), 2);
        Due.is("a WORK behind", told("b0;w00001;"), -2000);
        Due.is("BUILT ahead", told("w00001;b0;b0;"), -2010);
        Due.is("a FAMILY ahead", told("f0100;d000001;"), 2);
        Due.is("a FAMILY behind", told("d000001;f0100;"), -2000);
        Due.is("the first of two FAULTS", told("r05;y00;r21;"), -2004);
        Due.is("a FAULT of form is told ahead of one of sense", told("y00;r21;r0x;"), -1010);
        PaidByTheUnborn x = new PaidByTheUnborn();
        for (int k = 0; k < 16; k++) x.years(60);
        x.years(30);
        Due.tell(x, "y01;y09;");
        Due.is("to YEAR 1000", x.treasury(), -2004);
        Due.is("YEAR stays", x.count(2), 990);
        Due.tell(x, "y01;y08;");
        Due.is("to YEAR 999", x.treasury(), 2);
        Due.is("YEAR", x.count(2), 999);
        Due.tell(x, "y01;");
        Due.is("YEAR above 999", x.treasury(), -2000);
        PaidByTheUnborn y = Due.told("f0140;d000100;w00050;r00;y02;b0;y01;r20;y01;");
        Due.is("in their order: 92, 142, 138, 165 less 4", y.count(5), 161);
        PaidByTheUnborn z = Due.told("f0100;w20010;b0;f0200;w20010;b1;");
        Due.is("a WAR ahead of a FAMILY", z.familyOf(0, 1), 20);
        Due.is("a WAR behind it", z.familyOf(1, 1), 20);
    }

    /** "Without FAULT all of it comes, with one nothing"; "(nothing is counted)". */
    private static void nothingComes() {
        String all = "f0511;w00007;b0;r09;y03;d000099;";
        PaidByTheUnborn x = Due.told(all);
        int[] due = {1, 1, 3, 9, 8, 99, 1, 0, 0, 0};
        for (int what = 0; what < due.length; what++) Due.is("all of it, count " + what, x.count(what), due[what]);
        for (String fault : new String[] {"b0;", "b", "x", "d200000;", "y00;"}) {
            PaidByTheUnborn y = new PaidByTheUnborn();
            y.family(3, 0, 0);
            y.debt(0, 77);
            Due.tell(y, "f0511;w00007;r09;b0;y03;d100099;d000001;" + fault);
            Due.is("a FAULT at the end: " + fault, y.treasury(), fault.equals("b") ? -1041 : fault.equals("x") ? -1040 : -2040);
            int[] none = {1, 0, 0, 5, 3, 77, 0, 0, 0, 1, -9, 0, 0, 0, 0, 0, 0};
            for (int what = 0; what < none.length; what++) {
                Due.is("nothing of it, count " + what, y.count(what), none[what]);
            }
        }
    }

    /** "(96 at most)". */
    private static void roomOfLetters() {
        PaidByTheUnborn x = new PaidByTheUnborn();
        for (int k = 0; k < 31; k++) Due.tell(x, "r01");
        Due.is("93", x.count(7), 93);
        Due.is("94", x.feed('0'), 94);
        Due.is("95", x.feed(255), 95);
        Due.is("96", x.feed(0), 96);
        Due.is("97", x.feed('0'), -6);
        Due.is("still 97", x.feed('0'), -6);
        Due.is("none is lost", x.count(7), 96);
        Due.is("the fourth is no end", x.treasury(), -1003);
        for (int k = 0; k < 95; k++) x.feed('r');
        Due.is("96 once more", x.feed('r'), 96);
        Due.is("97 once more", x.feed('r'), -6);
        Due.is("its FAULT", x.treasury(), -1001);
        for (int k = 0; k < 12; k++) Due.tell(x, k < 6 ? "w00001;" : k < 11 ? "f0100;" : "b0;b1;b2;b3;b4;b5;");
        Due.is("90 letters", x.count(7), 90);
        Due.tell(x, "r20;r;");
        Due.is("96 letters, a FAULT at the last", x.treasury(), -1095);
    }
}
