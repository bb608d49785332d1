import java.lang.reflect.Method;
import java.lang.reflect.Modifier;
import java.util.ArrayList;
import java.util.Arrays;
import java.util.Comparator;
import java.util.HashMap;
import java.util.List;
import java.util.Map;
import java.util.Random;

/** Long runs of calls by a fixed seed, each answered by the class and by Plain; 512 calls of an object at most. */
final class PlainTest {
    private static final String[] MORE = {"family", "family", "work", "work", "builds", "builds", "years", "debt", "rate"};
    private static final String[] TEXTS = {"f0322;", "f1041;", "w01035;", "w12040;", "w29100;", "w33077;", "w45009;",
        "w51030;", "b0;", "b1;", "b4;", "r07;", "r20;", "r21;", "y09;", "y00;", "y60;", "d000120;", "d107000;",
        "d491000;", "f0;", "x", "d1", ";", "w", "b"};

    private static final Map<String, Integer> ANSWERED = new HashMap<>();

    public static void main(String[] args) throws Exception {
        List<Method> calls = new ArrayList<>();
        for (Method m : PaidByTheUnborn.class.getDeclaredMethods()) if (Modifier.isPublic(m.getModifiers())) calls.add(m);
        calls.sort(Comparator.comparing(Method::getName));
        Due.is("public methods", calls.size(), 49);
        for (int run = 0; run < 300; run++) run(run, calls);
        for (Method m : calls) {
            int times = ANSWERED.getOrDefault(m.getName(), 0);
            Due.holds(m.getName() + " is answered often: " + times, times > 100);
        }
        Due.end();
    }

    private static void run(int seed, List<Method> calls) throws Exception {
        Random random = new Random(seed);
        PaidByTheUnborn x = new PaidByTheUnborn();
        Plain plain = new Plain();
        for (int k = 0; k < 480; k++) {
            if (random.nextInt(12) == 0) {
                k += tell(x, plain, TEXTS[random.nextInt(TEXTS.length)], seed);
                if (random.nextBoolean()) compare(x, plain, find(calls, "treasury"), new int[0], seed);
                continue;
            }
            if (random.nextInt(30) == 0) {
                k += tellRow(x, plain, calls, random, seed);
                continue;
            }
            Method m = calls.get(random.nextInt(calls.size()));
            if (k < 20 || random.nextInt(7) == 0) m = find(calls, MORE[random.nextInt(MORE.length)]);
            int[] args = new int[m.getParameterCount()];
            boolean wild = random.nextInt(6) == 0;
            for (int p = 0; p < args.length; p++) args[p] = argument(random, m.getName(), p, wild);
            compare(x, plain, m, args, seed);
        }
        for (int what = 0; what < 17; what++) compare(x, plain, find(calls, "count"), new int[] {what}, seed);
    }

    private static int tell(PaidByTheUnborn x, Plain plain, String text, int seed) {
        for (int k = 0; k < text.length(); k++) {
            Due.is("run " + seed + ", feed", x.feed(text.charAt(k)), plain.call("feed", false, new int[] {text.charAt(k)}));
        }
        return text.length();
    }

    private static int tellRow(PaidByTheUnborn x, Plain plain, List<Method> calls, Random random, int seed)
            throws Exception {
        boolean ofSet = random.nextBoolean();
        int family = random.nextInt(5);
        List<Integer> row = ofSet ? plain.rowOfSet(random.nextInt(64)) : plain.rowOfFamily(family, 1 + random.nextInt(12));
        int wrong = random.nextInt(20);
        compare(x, plain, find(calls, "clear"), new int[0], seed);
        for (int k = 0; k < row.size(); k++) {
            int v = k == wrong ? random.nextInt(100) : row.get(k);
            compare(x, plain, find(calls, "row"), new int[] {v}, seed);
        }
        String[] names = ofSet ? new String[] {"whoBuilt"} : new String[] {"judge", "clear"};
        for (String name : names) {
            for (int what = 0; what < (ofSet ? 2 : 1); what++) {
                int[] args = name.equals("clear") ? new int[0] : new int[] {ofSet ? what : family};
                compare(x, plain, find(calls, name), args, seed);
            }
        }
        return row.size() + 2;
    }

    private static Method find(List<Method> calls, String name) {
        for (Method m : calls) if (m.getName().equals(name)) return m;
        throw new IllegalArgumentException(name);
    }

    private static int argument(Random random, String name, int place, boolean wild) {
        if (wild) {
            int[] edges = {Integer.MIN_VALUE, -1000, -10, -2, -1, 0, 1, 5, 6, 8, 9, 10, 12, 20, 21, 60, 61, 96, 99, 100, 101,
                255, 256, 999, 1000, 9999, 10000, 99999, 100000, Integer.MAX_VALUE};
            return edges[random.nextInt(edges.length)];
        }
        int[] most = switch (name) {
            case "family" -> new int[] {random.nextInt(3) == 0 ? 20 : 5, 9, 9};
            case "work" -> new int[] {5, 9, random.nextInt(2) == 0 ? 30 : 999};
            case "debt" -> new int[] {4, random.nextInt(4) == 0 ? 99999 : 900};
            case "rate" -> new int[] {20};
            case "years" -> new int[] {random.nextInt(5) == 0 ? 60 : 4};
            case "behind", "highest", "peak" -> new int[] {4, 100, 2};
            case "all", "oneMore", "bestMerger", "jubilee" -> new int[] {random.nextInt(2) == 0 ? 100 : 9};
            case "building" -> new int[] {random.nextInt(2) == 0 ? 20 : 3, random.nextInt(2) == 0 ? 999 : 90, 1};
            case "pulledDown" -> new int[] {5, 4, 30};
            case "merger", "treaty" -> new int[] {4, 4, 40};
            case "births" -> new int[] {4, 8, 99, 20, 1};
            case "cheapest" -> new int[] {100, 1};
            case "lump" -> new int[] {4, 200};
            case "commonPay" -> new int[] {40, 9999};
            case "bestBirths", "interest" -> new int[] {4, 50};
            case "lots" -> new int[] {20, Integer.MAX_VALUE - 1, 1};
            case "row" -> new int[] {random.nextInt(2) == 0 ? 99 : 9};
            case "feed" -> new int[] {255};
            case "count" -> new int[] {17};
            default -> new int[] {4, 4, 4};
        };
        int from = name.equals("order") ? -1 : 0;
        return random.nextInt(most[place] + 1) + from;
    }

    private static void compare(PaidByTheUnborn x, Plain plain, Method m, int[] args, int seed) throws Exception {
        Object[] boxed = new Object[args.length];
        for (int p = 0; p < args.length; p++) boxed[p] = args[p];
        long got = ((Number) m.invoke(x, boxed)).longValue();
        long want = plain.call(m.getName(), m.getReturnType() == long.class, args);
        Due.is("run " + seed + ", " + m.getName() + Arrays.toString(args), got, want);
        if (got >= 0 || got == -9) ANSWERED.merge(m.getName(), 1, Integer::sum);
    }
}
