import java.util.Arrays;
import java.util.function.LongSupplier;

/** What the tests share: a tally of the answers that are not due, and the objects on which they ask. */
final class Due {
    private static final int MOST_TOLD = 200;
    private static int wrong = 0;

    private Due() {
    }

    static void is(String call, long got, long want) {
        if (got != want) tell(call + " answered " + got + ", due is " + want);
    }

    static void holds(String claim, boolean holds) {
        if (!holds) tell("does not hold: " + claim);
    }

    private static void tell(String what) {
        wrong++;
        if (wrong <= MOST_TOLD) System.out.println(what);
    }

    static void endIfWrong() {
        if (wrong != 0) end();
    }

    static void end() {
        System.out.println(wrong == 0 ? "as due" : wrong + " not as due");
        if (wrong != 0) System.exit(1);
    }

    /** That it is refused so, and counted so; that it leaves no other trace is looked at in CallsTest. */
    static void refused(PaidByTheUnborn x, String call, LongSupplier asked, int number) {
        long[] ahead = refusals(x);
        long got = asked.getAsLong();
        is(call, got < 0 ? got : 4000000000000000000L - got, number);
        ahead[-1 - number]++;
        long[] behind = refusals(x);
        holds(call + " is counted once: " + Arrays.toString(behind), Arrays.equals(ahead, behind));
    }

    static long[] refusals(PaidByTheUnborn x) {
        long[] counts = new long[6];
        for (int k = 0; k < counts.length; k++) counts[k] = x.count(11 + k);
        return counts;
    }

    static void tell(PaidByTheUnborn x, String text) {
        for (int k = 0; k < text.length(); k++) x.feed(text.charAt(k));
    }

    static PaidByTheUnborn told(String text) {
        PaidByTheUnborn x = new PaidByTheUnborn();
        tell(x, text);
        x.treasury();
        return x;
    }

    /** HEADS 4, 7, 2 (BIRTHS 3, 0, 5), DEBTS 50, 20, 20, and a WORK of each KIND (FIGURE 3, COST 100). */
    static PaidByTheUnborn three() {
        PaidByTheUnborn x = told("f0433;f0720;f0205;d000050;d100020;d200020;");
        tell(x, "w03100;w13100;w23100;w33100;w43100;w53100;");
        x.treasury();
        return x;
    }
}
