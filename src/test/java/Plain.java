import java.math.BigInteger;
import java.util.ArrayDeque;
import java.util.ArrayList;
import java.util.Arrays;
import java.util.Deque;
import java.util.List;
import java.util.function.Consumer;
import java.util.function.IntPredicate;
import java.util.function.ToLongFunction;
import java.util.regex.Matcher;
import java.util.regex.Pattern;

/** The document said a second time, in another way: whole copies, lists, trees of chances, all orders at once. */
final class Plain {
    static final class Refusal extends RuntimeException {
        final int number;

        Refusal(int number) {
            this.number = number;
        }
    }

    static final class House {
        int heads;
        int debt;
        int pays;
        int births;

        House(int heads, int debt, int pays, int births) {
            this.heads = heads;
            this.debt = debt;
            this.pays = pays;
            this.births = births;
        }

        int owes() {
            return (int) Math.ceil((double) debt / heads);
        }
    }

    static final class World {
        List<House> houses = new ArrayList<>();
        List<int[]> works = new ArrayList<>();
        List<Integer> built = new ArrayList<>();
        int rate = 5;
        int year = 0;

        World copy() {
            World c = new World();
            for (House h : houses) c.houses.add(new House(h.heads, h.debt, h.pays, h.births));
            c.works.addAll(works);
            c.built.addAll(built);
            c.rate = rate;
            c.year = year;
            return c;
        }

        int debts() {
            return houses.stream().mapToInt(h -> h.debt).sum();
        }

        int heads() {
            return houses.stream().mapToInt(h -> h.heads).sum();
        }

        void years(int n) {
            for (int k = 0; k < n; k++) {
                year++;
                for (House h : houses) {
                    h.debt = Math.min(99999, h.debt + h.debt * rate / 100);
                    h.debt = Math.max(0, h.debt - h.pays * h.heads);
                    if (h.births != 0 && year % h.births == 0) h.heads = Math.min(20, h.heads + 1);
                }
            }
        }

        World later(int n) {
            World c = copy();
            c.years(n);
            return c;
        }

        int due(int w) {
            int figure = works.get(w)[1];
            int cost = works.get(w)[2];
            return switch (works.get(w)[0]) {
                case 0 -> cost;
                case 1 -> cost + figure;
                case 2 -> cost * 2;
                case 3 -> (cost + figure) / 2;
                case 4 -> Math.max(1, cost * 2 - figure);
                default -> cost * 2 + figure;
            };
        }

        int[] byHeads(int amount, IntPredicate who) {
            int[] shares = new int[houses.size()];
            int heads = 0;
            for (int f = 0; f < shares.length; f++) if (who.test(f)) heads += houses.get(f).heads;
            int given = 0;
            for (int f = 0; f < shares.length; f++) {
                if (who.test(f)) given += shares[f] = amount * houses.get(f).heads / heads;
            }
            for (int f = 0; f < shares.length; f++) if (who.test(f) && given++ < amount) shares[f]++;
            return shares;
        }

        int[] shares(int w) {
            int size = houses.size();
            int[] shares = new int[size];
            if (size == 0) return shares;
            int due = due(w);
            int kind = works.get(w)[0];
            if (kind == 0) {
                for (int k = 0; k < due; k++) shares[k % size]++;
            } else if (kind == 2 || kind == 4) {
                int who = 0;
                for (int f = size - 1; f >= 0; f--) {
                    House h = houses.get(f);
                    House best = houses.get(who);
                    if (kind == 2 ? h.heads > best.heads || h.heads == best.heads && f < who
                            : h.debt < best.debt || h.debt == best.debt && f < who) who = f;
                }
                shares[who] = due;
            } else if (kind == 3 && houses.stream().anyMatch(h -> h.births > 0)) {
                return byHeads(due, f -> houses.get(f).births > 0);
            } else {
                return byHeads(due, f -> true);
            }
            return shares;
        }

        void owe(int[] shares) {
            for (int f = 0; f < shares.length; f++) {
                houses.get(f).debt = Math.min(99999, houses.get(f).debt + shares[f]);
            }
        }

        void build(int w) {
            owe(shares(w));
            built.add(w);
        }

        World with(int set) {
            World c = copy();
            for (int w = 0; w < works.size(); w++) if ((set >> w & 1) == 1) c.build(w);
            return c;
        }

        World changed(Consumer<World> change) {
            World c = copy();
            change.accept(c);
            return c;
        }
    }

    private World world = new World();
    private World image = null;
    private final Deque<World> past = new ArrayDeque<>();
    private final StringBuilder letters = new StringBuilder();
    private final List<Integer> row = new ArrayList<>();
    private final int[] refusals = new int[7];

    long call(String name, boolean isLong, int[] a) {
        try {
            return answer(name, a);
        } catch (Refusal r) {
            refusals[-r.number]++;
            return isLong ? 4000000000000000000L - r.number : r.number;
        }
    }

    /** A ROW that would be so of a set of works, or of a FAMILY in the YEARS to come. */
    List<Integer> rowOfSet(int set) {
        World free = world.changed(w -> w.houses.forEach(x -> x.debt = 0));
        return free.with(set & (1 << world.works.size()) - 1).houses.stream().map(x -> Math.min(99, x.debt)).toList();
    }

    List<Integer> rowOfFamily(int f, int many) {
        List<Integer> told = new ArrayList<>();
        for (int n = 0; n < many && f < size(); n++) told.add(Math.min(99, world.later(n).houses.get(f).owes()));
        return told;
    }

    // ---- refusals

    private static void need(boolean holds, int number) {
        if (!holds) throw new Refusal(number);
    }

    private House house(int f) {
        need(f >= 0 && f < world.houses.size(), -1);
        return world.houses.get(f);
    }

    private void workThere(int w) {
        need(w >= 0 && w < world.works.size(), -1);
    }

    private static void range(int v, int least, int most) {
        need(v >= least, -4);
        need(v <= most, -6);
    }

    private static void whats(int what, int last) {
        need(what >= 0 && what <= last, -2);
    }

    // ---- finding

    private static long least(int from, int to, IntPredicate is) {
        for (int k = from; k <= to; k++) if (is.test(k)) return k;
        return -9;
    }

    private static long best(int size, IntPredicate among, ToLongFunction<Integer> value) {
        long found = -9;
        for (int k = size - 1; k >= 0; k--) {
            if (!among.test(k)) continue;
            if (found == -9 || value.applyAsLong(k) <= value.applyAsLong((int) found)) found = k;
        }
        return found;
    }

    private boolean unbuilt(int set) {
        return world.built.stream().noneMatch(w -> (set >> w & 1) == 1);
    }

    private int size() {
        return world.houses.size();
    }

    // ---- the calls

    private long answer(String name, int[] a) {
        return switch (name) {
            case "feed", "treasury", "family", "work", "builds", "years", "debt", "rate", "back", "image", "restore",
                    "row", "judge", "clear" -> changing(name, a);
            case "familyOf", "workOf", "count", "share", "pulledDown", "signature", "whoBuilt", "oldest" ->
                    looking(name, a);
            case "behind", "all", "solvent", "first", "highest", "peak", "interest", "doubled", "lump", "crosses",
                    "half", "commonPay", "bestBirths" -> ahead(name, a);
            default -> comparing(name, a);
        };
    }

    private long changing(String name, int[] a) {
        World was = world.copy();
        long answer = 0;
        switch (name) {
            case "feed":
                range(a[0], 0, 255);
                need(letters.length() < 96, -6);
                letters.append((char) a[0]);
                return letters.length();
            case "treasury":
                String text = letters.toString();
                letters.setLength(0);
                return enact(text);
            case "family":
                need(a[0] >= 1 && a[1] >= 0 && a[2] >= 0, -4);
                need(a[0] <= 20 && a[1] <= 9 && a[2] <= 9 && size() < 5, -6);
                world.houses.add(new House(a[0], 0, a[1], a[2]));
                past.clear();
                return size() - 1;
            case "work":
                whats(a[0], 5);
                need(a[1] >= 0 && a[2] >= 1, -4);
                need(a[1] <= 9 && a[2] <= 999 && world.works.size() < 6, -6);
                world.works.add(a.clone());
                past.clear();
                return world.works.size() - 1;
            case "builds":
                workThere(a[0]);
                need(!world.built.contains(a[0]), -3);
                world.build(a[0]);
                answer = world.debts();
                break;
            case "years":
                range(a[0], 1, 60);
                need(world.year + a[0] <= 999, -6);
                world.years(a[0]);
                answer = world.debts();
                break;
            case "debt":
                answer = house(a[0]).debt;
                range(a[1], 0, 99999);
                house(a[0]).debt = a[1];
                break;
            case "rate":
                range(a[0], 0, 20);
                answer = world.rate;
                world.rate = a[0];
                break;
            case "back":
                need(!past.isEmpty(), -3);
                world = past.pop();
                return past.size();
            case "image":
                image = was;
                return world.year;
            case "restore":
                need(image != null, -3);
                world = image.copy();
                past.clear();
                return world.year;
            case "row":
                range(a[0], 0, 99);
                need(row.size() < 12, -6);
                row.add(a[0]);
                return row.size();
            case "clear":
                answer = row.size();
                row.clear();
                return answer;
            default:
                house(a[0]);
                List<Integer> told = new ArrayList<>(row);
                row.clear();
                return least(0, told.size() - 1, k ->
                        told.get(k) != Math.min(99, world.later(k).houses.get(a[0]).owes()));
        }
        past.push(was);
        if (past.size() > 8) past.removeLast();
        return answer;
    }

    private static final Pattern STATEMENT =
            Pattern.compile("f(\\d\\d)(\\d)(\\d);|w(\\d)(\\d)(\\d{3});|b(\\d);|r(\\d\\d);|y(\\d\\d);|d(\\d)(\\d{5});");
    private static final String WAYS = "f0000;w00000;b0;r00;y00;d000000;";

    /** Whether something can be put behind this text with which it is a row of STATEMENTS. */
    private static boolean canGoOn(String text) {
        String rest = STATEMENT.matcher(text).replaceAll("\uffff").replaceFirst("^\uffff+", "");
        if (rest.isEmpty()) return true;
        for (String way : WAYS.split("(?<=;)")) {
            if (rest.length() < way.length() && STATEMENT.matcher(rest + way.substring(rest.length())).matches()) {
                return true;
            }
        }
        return false;
    }

    private long enact(String text) {
        for (int k = 0; k < text.length(); k++) if (!canGoOn(text.substring(0, k + 1))) return -1000 - k;
        if (!text.endsWith(";")) return -1000 - text.length();
        Plain tried = new Plain();
        tried.world = world.copy();
        Matcher m = STATEMENT.matcher(text);
        int statements = 0;
        while (m.find()) {
            String s = m.group();
            try {
                switch (s.charAt(0)) {
                    case 'f' -> tried.changing("family", numbers(m, 1, 3));
                    case 'w' -> tried.changing("work", numbers(m, 4, 3));
                    case 'b' -> tried.changing("builds", numbers(m, 7, 1));
                    case 'r' -> tried.changing("rate", numbers(m, 8, 1));
                    case 'y' -> tried.changing("years", numbers(m, 9, 1));
                    default -> tried.changing("debt", numbers(m, 10, 2));
                }
            } catch (Refusal r) {
                return -2000 - m.start();
            }
            statements++;
        }
        world = tried.world;
        past.clear();
        return statements;
    }

    private static int[] numbers(Matcher m, int from, int many) {
        int[] numbers = new int[many];
        for (int k = 0; k < many; k++) numbers[k] = Integer.parseInt(m.group(from + k));
        return numbers;
    }

    private long looking(String name, int[] a) {
        switch (name) {
            case "familyOf":
                House h = house(a[0]);
                whats(a[1], 4);
                return new int[] {h.heads, h.debt, h.pays, h.births, h.owes()}[a[1]];
            case "workOf":
                workThere(a[0]);
                whats(a[1], 4);
                if (a[1] == 3) return world.due(a[0]);
                return a[1] == 4 ? (world.built.contains(a[0]) ? 1 : 0) : world.works.get(a[0])[a[1]];
            case "share":
                workThere(a[0]);
                house(a[1]);
                return world.shares(a[0])[a[1]];
            case "pulledDown":
                workThere(a[0]);
                house(a[1]);
                range(a[2], 0, 100);
                int share = world.shares(a[0])[a[1]];
                World without = world.changed(w -> w.houses.get(a[1]).debt = Math.max(0, house(a[1]).debt - share));
                return world.later(a[2]).houses.get(a[1]).debt - without.later(a[2]).houses.get(a[1]).debt;
            case "signature":
                workThere(a[0]);
                whats(a[1], 1);
                int signing = 0;
                for (int f = 0; f < size(); f++) {
                    double each = Math.ceil((double) world.shares(a[0])[f] / house(f).heads);
                    if (each <= Math.ceil((double) world.works.get(a[0])[2] / world.heads())) signing += house(f).heads;
                }
                return a[1] == 0 ? signing : signing * 2 > world.heads() ? 1 : 0;
            case "whoBuilt":
                whats(a[0], 1);
                need(row.size() == size(), -3);
                World free = world.changed(w -> w.houses.forEach(x -> x.debt = 0));
                List<Integer> sets = new ArrayList<>();
                for (int set = 0; set < 1 << world.works.size(); set++) {
                    List<Integer> debts = free.with(set).houses.stream().map(x -> Math.min(99, x.debt)).toList();
                    if (debts.equals(row)) sets.add(set);
                }
                return a[0] == 0 ? sets.size() : sets.isEmpty() ? -9 : sets.get(0);
            case "oldest":
                whats(a[0], 1);
                if (world.built.isEmpty()) return -9;
                return world.built.get(a[0] == 0 ? 0 : world.built.size() - 1);
            default:
                int[] counts = {size(), world.works.size(), world.year, world.rate, world.heads(), world.debts(),
                    world.built.stream().mapToInt(w -> 1 << w).sum(), letters.length(), row.size(), past.size(), -9,
                    refusals[1], refusals[2], refusals[3], refusals[4], refusals[5], refusals[6]};
                return a[0] < 0 || a[0] >= counts.length ? -9 : counts[a[0]];
        }
    }

    private House later(World w, int f, int n) {
        return w.later(n).houses.get(f);
    }

    private long ahead(String name, int[] a) {
        switch (name) {
            case "behind":
                house(a[0]);
                range(a[1], 0, 100);
                whats(a[2], 2);
                House then = later(world, a[0], a[1]);
                return new int[] {then.debt, then.heads, then.owes()}[a[2]];
            case "all":
                range(a[0], 0, 100);
                return world.later(a[0]).debts();
            case "solvent":
                house(a[0]);
                return least(0, 100, n -> later(world, a[0], n).debt == 0);
            case "first":
                whats(a[0], 2);
                if (a[0] == 0) {
                    return best(size(), f -> ahead("solvent", new int[] {f}) >= 0,
                            f -> ahead("solvent", new int[] {f}));
                }
                if (a[0] == 2) return least(0, 100, n -> world.later(n).houses.stream().anyMatch(h -> h.debt == 99999));
                int bits = 0;
                for (int f = 0; f < size(); f++) if (later(world, f, 1).debt > house(f).debt) bits += 1 << f;
                return bits;
            case "highest":
                house(a[0]);
                range(a[1], 0, 100);
                whats(a[2], 1);
                if (a[2] == 1) {
                    return least(0, 9, p ->
                            later(world.changed(w -> w.houses.get(a[0]).pays = p), a[0], a[1]).debt == 0);
                }
                long less = least(0, 20, r -> later(world.changed(w -> w.rate = 20 - r), a[0], a[1]).debt == 0);
                return less == -9 ? -9 : 20 - less;
            case "peak":
                house(a[0]);
                range(a[1], 0, 100);
                whats(a[2], 1);
                long when = best(a[1] + 1, n -> true, n -> -later(world, a[0], n).debt);
                return a[2] == 1 ? when : later(world, a[0], (int) when).debt;
            case "interest":
                house(a[0]);
                range(a[1], 0, 100);
                long added = 0;
                for (int n = 0; n < a[1]; n++) {
                    int debt = later(world, a[0], n).debt;
                    added += Math.min(99999, debt + debt * world.rate / 100) - debt;
                }
                return added;
            case "doubled":
                int now = house(a[0]).debt;
                return now == 0 ? -9 : least(1, 100, n -> later(world, a[0], n).debt >= 2 * now);
            case "lump":
                house(a[0]);
                range(a[1], 0, 9999);
                World w = world.copy();
                return least(0, 100, n -> {
                    if (n > 0) {
                        w.years(1);
                        w.houses.get(a[0]).debt = Math.max(0, w.houses.get(a[0]).debt - a[1]);
                    }
                    return w.houses.get(a[0]).debt == 0;
                });
            case "crosses":
                house(a[0]);
                house(a[1]);
                need(a[0] != a[1], -1);
                return least(0, 100, n -> later(world, a[0], n).owes() < later(world, a[1], n).owes());
            case "half":
                return least(0, 100, n -> world.later(n).debts() <= world.debts() / 2.0);
            case "commonPay":
                need(a[0] >= 0 && a[1] >= 0, -4);
                need(a[0] <= 100 && a[1] <= 99999, -6);
                return least(0, 9, p ->
                        world.changed(x -> x.houses.forEach(h -> h.pays = p)).later(a[0]).debts() <= a[1]);
            default:
                house(a[0]);
                range(a[1], 0, 100);
                return best(10, b -> true, b ->
                        later(world.changed(x -> x.houses.get(a[0]).births = b), a[0], a[1]).owes());
        }
    }

    private long comparing(String name, int[] a) {
        switch (name) {
            case "building":
                need(a[0] >= 0 && a[1] >= 0, -4);
                need(a[0] <= 100 && a[1] <= 999, -6);
                whats(a[2], 1);
                long set = best(1 << world.works.size(), s -> unbuilt(s)
                        && world.with(s).later(a[0]).houses.stream().allMatch(h -> h.owes() <= a[1]), s -> -cost(s));
                return a[2] == 0 || set == -9 ? set : cost((int) set);
            case "oneMore":
                range(a[0], 0, 100);
                return best(world.works.size(), w -> unbuilt(1 << w), w -> world.with(1 << w).later(a[0]).debts());
            case "merger":
                house(a[0]);
                house(a[1]);
                need(a[0] != a[1], -1);
                range(a[2], 0, 100);
                return merged(a[0], a[1], a[2]);
            case "bestMerger":
                range(a[0], 0, 100);
                return best(100, p -> p / 10 < p % 10 && p % 10 < size()
                        && merged(p / 10, p % 10, a[0]) < later(world, p / 10, a[0]).owes()
                        && merged(p / 10, p % 10, a[0]) < later(world, p % 10, a[0]).owes(),
                        p -> merged(p / 10, p % 10, a[0]));
            case "child":
                BigInteger debt = BigInteger.valueOf(house(a[0]).debt);
                whats(a[1], 1);
                return fraction(debt, BigInteger.valueOf(house(a[0]).heads), a[1]);
            case "cheapest":
                range(a[0], 0, 100);
                whats(a[1], 1);
                if (a[1] == 0) return best(size(), f -> true, f -> house(f).debt * 232792560L / house(f).heads);
                int born = 0;
                for (int n = 1; n <= a[0]; n++) {
                    for (int f = 0; f < size(); f++) {
                        House then = later(world, f, n);
                        if (then.debt == 0) born += then.heads - later(world, f, n - 1).heads;
                    }
                }
                return born;
            case "treaty":
                house(a[0]);
                house(a[1]);
                need(a[0] != a[1], -1);
                range(a[2], 0, 100);
                for (int p : new int[] {0, 1, 10, 11}) {
                    int x = p / 10;
                    int y = p % 10;
                    if (cost(a[0], x, a[2]) <= cost(a[0], 1 - x, a[2]) && cost(a[1], y, a[2]) <= cost(a[1], 1 - y, a[2])) {
                        return p;
                    }
                }
                return -9;
            case "births":
                house(a[0]);
                need(a[1] >= 0 && a[2] >= 0 && a[3] >= 2, -4);
                need(a[1] <= 8 && a[2] <= 999 && a[3] <= 20, -6);
                whats(a[4], 1);
                World w = world.changed(x -> x.houses.get(a[0]).births = 0);
                return fraction(ways(w, a[0], a[1], a[2], a[3]), BigInteger.valueOf(a[3]).pow(a[1]), a[4]);
            case "order":
                return order(a[0]);
            case "jubilee":
                range(a[0], 0, 100);
                return best(size(), f -> true, f ->
                        world.changed(x -> x.houses.get(f).debt = 0).later(a[0]).debts());
            case "fair":
                whats(a[0], 1);
                if (a[0] == 1) return best(size(), f -> true, f -> -house(f).owes());
                int apart = 0;
                for (House h : world.houses) for (House g : world.houses) apart = Math.max(apart, h.owes() - g.owes());
                return apart;
            case "heir":
                House gone = house(a[0]);
                if (size() == 1) return -9;
                World after = world.copy();
                after.owe(after.byHeads(gone.debt, f -> f != a[0]));
                after.houses.remove(a[0]);
                return after.houses.stream().mapToInt(House::owes).max().getAsInt();
            case "rank":
                need(a[0] >= 0, -4);
                List<Integer> ranks = new ArrayList<>();
                for (int f = 0; f < size(); f++) ranks.add(f);
                ranks.sort((x, y) -> house(y).owes() - house(x).owes());
                return a[0] < size() ? ranks.get(a[0]) : -9;
            case "lots":
                range(a[0], 1, 20);
                whats(a[2], 1);
                return lots(a[0], a[1], a[2]);
            default:
                throw new IllegalStateException(name);
        }
    }

    private long cost(int set) {
        long cost = 0;
        for (int w = 0; w < world.works.size(); w++) if ((set >> w & 1) == 1) cost += world.works.get(w)[2];
        return cost;
    }

    private int merged(int one, int other, int n) {
        return later(world.changed(w -> {
            House h = w.houses.get(one);
            h.heads = Math.min(20, h.heads + house(other).heads);
            h.debt = Math.min(99999, h.debt + house(other).debt);
        }), one, n).owes();
    }

    /** What is paid: what came in as interest and is not there any more. */
    private long cost(int f, int more, int n) {
        World w = world.changed(x -> x.houses.get(f).pays = Math.min(9, x.houses.get(f).pays + more));
        long paid = 0;
        for (int k = 0; k < n; k++) {
            int debt = later(w, f, k).debt;
            paid += Math.min(99999, debt + debt * w.rate / 100) - later(w, f, k + 1).debt;
        }
        return paid + later(w, f, n).debt;
    }

    private static BigInteger ways(World w, int f, int n, int v, int t) {
        if (n == 0) return w.houses.get(f).owes() <= v ? BigInteger.ONE : BigInteger.ZERO;
        World none = w.later(1);
        World one = none.changed(x -> x.houses.get(f).heads = Math.min(20, x.houses.get(f).heads + 1));
        return ways(none, f, n - 1, v, t).multiply(BigInteger.valueOf(t - 1)).add(ways(one, f, n - 1, v, t));
    }

    private static long fraction(BigInteger above, BigInteger below, int part) {
        BigInteger common = above.gcd(below);
        return (part == 0 ? above : below).divide(common).longValueExact();
    }

    private long order(int i) {
        need(i >= -1, -4);
        List<Integer> left = new ArrayList<>();
        for (int w = 0; w < world.works.size(); w++) if (!world.built.contains(w)) left.add(w);
        need(left.size() <= 5, -3);
        List<List<Integer>> orders = new ArrayList<>();
        permute(left, new ArrayList<>(), orders);
        long at = best(orders.size(), k -> true, k -> debtsOf(orders.get(k)));
        List<Integer> found = orders.get((int) at);
        if (i == -1) return debtsOf(found);
        return i < found.size() ? found.get(i) : -9;
    }

    private static void permute(List<Integer> left, List<Integer> taken, List<List<Integer>> into) {
        if (left.isEmpty()) into.add(new ArrayList<>(taken));
        for (Integer w : left) {
            List<Integer> rest = new ArrayList<>(left);
            rest.remove(w);
            taken.add(w);
            permute(rest, taken, into);
            taken.remove(taken.size() - 1);
        }
    }

    private long debtsOf(List<Integer> order) {
        World w = world.copy();
        for (int work : order) {
            w.build(work);
            w.years(1);
        }
        return w.debts();
    }

    private long lots(int n, int z, int what) {
        int[] seed = {z};
        long debts = 0;
        long free = 0;
        for (int k = 0; k < n; k++) {
            World w = world.copy();
            w.rate = draw(seed);
            for (House h : w.houses) h.pays = draw(seed);
            w.years(50);
            debts += w.debts();
            free += w.houses.stream().filter(h -> h.debt == 0).count();
        }
        return what == 0 ? debts : free;
    }

    private static int draw(int[] seed) {
        seed[0] = seed[0] * 1103515245 + 12345;
        return (int) ((seed[0] & 0x7fffffffL) / 65536 % 10);
    }

    @Override
    public String toString() {
        return world.houses.size() + " houses, " + world.works.size() + " works, " + Arrays.toString(refusals);
    }
}
