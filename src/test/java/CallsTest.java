import java.lang.reflect.Method;
import java.lang.reflect.Modifier;
import java.util.ArrayList;
import java.util.Arrays;
import java.util.HashSet;
import java.util.List;
import java.util.Random;
import java.util.Set;
import java.util.TreeSet;

/**
 * What each call refuses, in the order in which its promise tells it, for all numbers at the edges together; that a
 * refusal leaves no trace but its count, and an answer in mind none. Every call is made on an object of its own.
 */
final class CallsTest {
    private static final Set<String> CHANGING = Set.of("feed", "treasury", "family", "work", "builds", "years", "debt",
            "rate", "back", "row", "judge", "clear", "image", "restore");

    private interface Fits {
        boolean fits(PaidByTheUnborn x, int[] args);
    }

    private static final class Rule {
        final int number;
        final int place;
        final int[] edges;
        final Fits when;

        Rule(int number, int place, int[] edges, Fits when) {
            this.number = number;
            this.place = place;
            this.edges = edges;
            this.when = when;
        }
    }

    private static final int EDGES = 0;
    private static final int TWINS = 1;
    private static final Set<String> SEEN = new HashSet<>();
    private static int looking;

    /** The greatest and least ints come last: where a bound is not looked at, a call with these may go on for long. */
    public static void main(String[] args) throws Exception {
        for (int round = 0; round < 3; round++) {
            looking = round;
            ofOne();
            ofTwo();
            ofMany();
            ofStates();
            Due.endIfWrong();
        }
        for (Method m : PaidByTheUnborn.class.getDeclaredMethods()) {
            if (Modifier.isPublic(m.getModifiers())) Due.holds(m.getName() + " is looked at", SEEN.contains(m.getName()));
        }
        Due.end();
    }

    private static void ofOne() throws Exception {
        look("count");
        look("first", other(0, 2));
        look("fair", other(0, 1));
        look("oldest", other(0, 1));
        look("rate", below(0, 0), above(0, 20));
        for (String name : new String[] {"all", "oneMore", "bestMerger", "jubilee"}) look(name, below(0, 0), above(0, 100));
        for (String name : new String[] {"solvent", "doubled", "heir", "judge"}) look(name, nobody(0));
        look("rank", below(0, 0));
        look("years", below(0, 1), above(0, 60), state(-6, (x, a) -> x.count(2) + a[0] > 999));
        look("feed", below(0, 0), above(0, 255), state(-6, (x, a) -> x.count(7) == 96));
        look("row", below(0, 0), above(0, 99), state(-6, (x, a) -> x.count(8) == 12));
        look("builds", noWork(0), state(-3, (x, a) -> (x.count(6) >> a[0] & 1) == 1));
        look("whoBuilt", other(0, 1), state(-3, (x, a) -> x.count(8) != x.count(0)));
        look("order", below(0, -1), state(-3, (x, a) -> x.count(1) - Integer.bitCount(x.count(6)) > 5));
    }

    private static void ofTwo() throws Exception {
        look("familyOf", nobody(0), other(1, 4));
        look("workOf", noWork(0), other(1, 4));
        look("debt", nobody(0), below(1, 0), above(1, 99999));
        look("share", noWork(0), nobody(1));
        look("child", nobody(0), other(1, 1));
        look("cheapest", below(0, 0), above(0, 100), other(1, 1));
        look("signature", noWork(0), other(1, 1));
        look("interest", nobody(0), below(1, 0), above(1, 100));
        look("bestBirths", nobody(0), below(1, 0), above(1, 100));
        look("commonPay", below(0, 0), below(1, 0), above(0, 100), above(1, 99999));
        look("lump", nobody(0), below(1, 0), above(1, 9999));
        look("crosses", nobody(0), nobody(1), twice());
    }

    private static void ofMany() throws Exception {
        look("family", below(0, 1), below(1, 0), below(2, 0), above(0, 20), above(1, 9), above(2, 9),
                state(-6, (x, a) -> x.count(0) == 5));
        look("work", other(0, 5), below(1, 0), below(2, 1), above(1, 9), above(2, 999),
                state(-6, (x, a) -> x.count(1) == 6));
        look("behind", nobody(0), below(1, 0), above(1, 100), other(2, 2));
        look("highest", nobody(0), below(1, 0), above(1, 100), other(2, 1));
        look("peak", nobody(0), below(1, 0), above(1, 100), other(2, 1));
        look("building", below(0, 0), below(1, 0), above(0, 100), above(1, 999), other(2, 1));
        look("pulledDown", noWork(0), nobody(1), below(2, 0), above(2, 100));
        look("merger", nobody(0), nobody(1), twice(), below(2, 0), above(2, 100));
        look("treaty", nobody(0), nobody(1), twice(), below(2, 0), above(2, 100));
        look("births", nobody(0), below(1, 0), below(2, 0), below(3, 2), above(1, 8), above(2, 999), above(3, 20),
                other(4, 1));
        look("lots", below(0, 1), above(0, 20), other(2, 1));
    }

    private static void ofStates() throws Exception {
        look("treasury");
        look("clear");
        look("half");
        look("image");
        look("back", state(-3, (x, a) -> x.count(9) == 0));
        look("restore", state(-3, (x, a) -> x.count(3) == 5));
    }

    // ---- rules

    private static Rule below(int place, int least) {
        return new Rule(-4, place, new int[] {least - 1, least}, (x, a) -> a[place] < least);
    }

    private static Rule above(int place, int most) {
        return new Rule(-6, place, new int[] {most, most + 1}, (x, a) -> a[place] > most);
    }

    private static Rule other(int place, int last) {
        return new Rule(-2, place, new int[] {-1, 0, last, last + 1}, (x, a) -> a[place] < 0 || a[place] > last);
    }

    private static Rule nobody(int place) {
        return new Rule(-1, place, new int[] {-1, 0, 1, 2, 4, 5}, (x, a) -> a[place] < 0 || a[place] >= x.count(0));
    }

    private static Rule noWork(int place) {
        return new Rule(-1, place, new int[] {-1, 0, 2, 3, 5, 6}, (x, a) -> a[place] < 0 || a[place] >= x.count(1));
    }

    private static Rule twice() {
        return new Rule(-1, 0, new int[0], (x, a) -> a[0] == a[1]);
    }

    private static Rule state(int number, Fits when) {
        return new Rule(number, 0, new int[0], when);
    }

    // ---- states: RATE is 5 where no image is taken, and another where one is

    private static PaidByTheUnborn made(int state) {
        PaidByTheUnborn x = new PaidByTheUnborn();
        if (state == 1) {
            for (int f = 0; f < 2; f++) x.family(4 + 3 * f, 3 - 3 * f, 2 + f);
            for (int w = 0; w < 3; w++) x.work(2 * w, 3 + w, 100 / (w + 1));
            x.builds(1);
            x.image();
            x.years(2);
            x.debt(1, 31);
            x.rate(7);
            for (int k = 0; k < 2; k++) x.row(30 + k);
            Due.tell(x, "y01;");
        }
        if (state == 2) {
            full(x);
            x.builds(4);
            for (int k = 0; k < 16; k++) x.years(60);
            x.years(30);
            for (int f = 0; f < 5; f++) x.debt(f, 7000 * f);
            x.image();
            x.rate(2);
            for (int k = 0; k < 12; k++) x.row(8 * k);
            for (int k = 0; k < 24; k++) Due.tell(x, "r1" + k % 10 + ";");
        }
        if (state == 3) {
            full(x);
            for (int k = 0; k < 16; k++) x.years(60);
            x.years(39);
            for (int f = 0; f < 5; f++) x.row(0);
        }
        return x;
    }

    private static void full(PaidByTheUnborn x) {
        for (int f = 0; f < 5; f++) x.family(1 + 4 * f, f, f * 2);
        for (int w = 0; w < 6; w++) x.work(w, w, 30 + w);
    }

    /** All counts, all of the FAMILIES and WORKS that there are, OLDEST and LAST: what can be seen without a trace. */
    private static long[] seen(PaidByTheUnborn x) {
        long[] seen = new long[80];
        int at = 0;
        for (int what = 0; what < 18; what++) seen[at++] = x.count(what);
        for (int f = 0; f < x.count(0); f++) for (int what = 0; what < 5; what++) seen[at++] = x.familyOf(f, what);
        for (int w = 0; w < x.count(1); w++) for (int what = 0; what < 5; what++) seen[at++] = x.workOf(w, what);
        seen[at++] = x.oldest(0);
        seen[at] = x.oldest(1);
        return seen;
    }

    /** What can be seen of all that there is, also of what is hidden: it is used up by that. */
    private static List<Long> trail(PaidByTheUnborn x) {
        List<Long> trail = new ArrayList<>();
        trail.add((long) x.whoBuilt(0));
        trail.add((long) x.judge(0));
        for (int k = 0; k < 9; k++) {
            trail.add((long) x.back());
            for (int what = 2; what < 7; what++) trail.add((long) x.count(what));
        }
        trail.add((long) x.treasury());
        for (long s : seen(x)) trail.add(s);
        trail.add((long) x.restore());
        for (long s : seen(x)) trail.add(s);
        return trail;
    }

    // ---- looking

    private static void look(String name, Rule... rules) throws Exception {
        Method call = null;
        for (Method m : PaidByTheUnborn.class.getDeclaredMethods()) {
            if (m.getName().equals(name) && Modifier.isPublic(m.getModifiers())) call = m;
        }
        SEEN.add(name);
        List<int[]> all = looking == EDGES ? combined(call.getParameterCount(), rules) : extremes(call.getParameterCount());
        if (looking == TWINS) {
            twins(call, combined(call.getParameterCount(), rules));
            return;
        }
        for (int state = 0; state < 4; state++) {
            long[] ahead = seen(made(state));
            List<Long> trail = trail(made(state));
            for (int[] args : all) {
                PaidByTheUnborn x = made(state);
                int due = 0;
                for (Rule r : rules) if (due == 0 && r.when.fits(x, args)) due = r.number;
                ask(call, x, args, due, ahead, trail);
            }
        }
    }

    /** An object is, behind a restore, as if what came and went had never been there. */
    private static void twins(Method call, List<int[]> all) throws Exception {
        Random random = new Random(3);
        for (int k = 0; k < 60; k++) all.add(random.ints(call.getParameterCount(), 0, k < 30 ? 4 : 12).toArray());
        for (int[] args : all) {
            for (int kinds = 0; kinds < 2; kinds++) {
                PaidByTheUnborn one = few(kinds);
                PaidByTheUnborn other = few(kinds);
                one.restore();
                many(other);
                other.restore();
                String told = "behind a restore " + call.getName() + Arrays.toString(args);
                Due.is(told, answer(call, other, args), answer(call, one, args));
                Due.holds(told + " leaves the same trace", trail(one).equals(trail(other)));
            }
        }
    }

    private static PaidByTheUnborn few(int kinds) {
        PaidByTheUnborn x = new PaidByTheUnborn();
        for (int f = 0; f < 2; f++) x.family(2 + 3 * f, 3 - 2 * f, kinds == 0 ? 3 * f : 0);
        for (int w = 0; w < 3; w++) x.work(kinds + 2 * w, w, 20 + w);
        x.builds(1);
        x.years(4);
        x.debt(1, 30);
        x.row(30);
        x.row(4);
        x.image();
        return x;
    }

    private static void many(PaidByTheUnborn x) {
        for (int f = 0; f < 3; f++) x.family(20, 9 * f % 8, 1);
        for (int w = 0; w < 3; w++) x.work(w, 9, 1);
        for (int w = 2; w < 6; w++) x.builds(w);
        x.years(1);
        for (int f = 1; f < 5; f++) x.debt(f, 99999 - 49999 * (f % 2));
        x.rate(0);
    }

    private static long answer(Method call, PaidByTheUnborn x, int[] args) throws Exception {
        Object[] boxed = new Object[args.length];
        for (int p = 0; p < args.length; p++) boxed[p] = args[p];
        return ((Number) call.invoke(x, boxed)).longValue();
    }

    private static void ask(Method call, PaidByTheUnborn x, int[] args, int due, long[] ahead, List<Long> trail)
            throws Exception {
        String told = call.getName() + Arrays.toString(args);
        long got = answer(call, x, args);
        long[] behind = seen(x);
        if (due == 0) {
            Due.holds(told + " is answered: " + got, got >= 0 && got < 4000000000000000000L || got == -9 || got <= -1000);
            for (int k = 11; k <= 16; k++) Due.is(told + ", count " + k, behind[k], ahead[k]);
            if (CHANGING.contains(call.getName())) return;
        } else {
            Due.is(told, got, call.getReturnType() == long.class ? 4000000000000000000L - due : due);
            behind[10 - due]--;
        }
        Due.holds(told + " leaves no trace", Arrays.equals(ahead, behind));
        List<Long> left = trail(x);
        if (due == 0) Due.holds(told + " leaves no hidden trace", left.equals(trail));
        else Due.is(told + " leaves no hidden trace but its count", apart(left, trail), 2);
    }

    /** In how many places two trails differ: a refusal more is told in either of the two states. */
    private static int apart(List<Long> one, List<Long> other) {
        int apart = 0;
        for (int k = 0; k < one.size(); k++) if (!one.get(k).equals(other.get(k))) apart++;
        return apart;
    }

    /** All edges together. */
    private static List<int[]> combined(int many, Rule... rules) {
        List<int[]> all = new ArrayList<>();
        all.add(new int[many]);
        for (int p = 0; p < many; p++) {
            Set<Integer> edges = new TreeSet<>();
            for (Rule r : rules) if (r.place == p) for (int e : r.edges) edges.add(e);
            if (edges.isEmpty()) edges.addAll(List.of(-1, 0, 1, 9));
            List<int[]> more = new ArrayList<>();
            for (int[] args : all) {
                for (int e : edges) {
                    int[] with = args.clone();
                    with[p] = e;
                    more.add(with);
                }
            }
            all = more;
        }
        return all;
    }

    /** Each of the greatest and least ints, and some that wrap, among small numbers. */
    private static List<int[]> extremes(int many) {
        List<int[]> all = new ArrayList<>();
        for (int p = 0; p < many; p++) {
            for (int e : new int[] {Integer.MIN_VALUE, Integer.MIN_VALUE + 1, 1 << 16, 1 << 30, Integer.MAX_VALUE}) {
                int[] with = new int[many];
                for (int q = 0; q < many; q++) with[q] = q;
                with[p] = e;
                all.add(with);
            }
        }
        return all;
    }
}
