/**
 * Paid in advance by the unborn: families into which children are born owing, works that are borrowed for, years of
 * interest, payments and births, and what follows of them. What each call does is told in ../shared/DOC.md.
 *
 * Every ledger and row is made in the constructor and used again, so that a call makes no object but a new work.
 */
public final class PaidByTheUnborn {

    private static final int NOBODY = -1;
    private static final int OTHER = -2;
    private static final int STATE = -3;
    private static final int BELOW = -4;
    private static final int ROOM = -6;
    private static final int NONE = -9;
    private static final int FAULT_OF_FORM = -1000;
    private static final int FAULT_OF_SENSE = -2000;
    private static final int GREATEST = 0x7fffffff;
    private static final long LONG_REFUSALS = 4000000000000000000L;

    private static final int MOST_FAMILIES = 5;
    private static final int MOST_WORKS = 6;
    private static final int MOST_HEADS = 20;
    private static final int MOST_DEBT = 99999;
    private static final int MOST_DIGIT = 9;
    private static final int MOST_COST = 999;
    private static final int MOST_RATE = 20;
    private static final int MOST_YEAR = 999;
    private static final int MOST_YEARS = 60;
    private static final int MOST_AHEAD = 100;
    private static final int MOST_OWED = 999;
    private static final int MOST_LUMP = 9999;
    private static final int MOST_CHANCES = 8;
    private static final int MOST_ODDS = 20;
    private static final int MOST_ORDERED = 5;
    private static final int MOST_CENTURIES = 20;
    private static final int CENTURY = 50;
    private static final int MOST_LETTER = 255;
    private static final int MOST_LETTERS = 96;
    private static final int MOST_ROW = 12;
    private static final int MOST_TOLD = 99;
    private static final int MOST_BACK = 8;

    private final Ledger now;
    private final Ledger mind;
    private final Ledger pictured;
    private boolean isPictured;
    private final Past past;
    private final Text text;
    private final int[] told;
    private int toldCount;
    private final int[] refusals;
    private final Family imagined;
    private final Family instead;
    private final int[] tried;
    private final int[] best;

    public PaidByTheUnborn() {
        now = new Ledger();
        mind = new Ledger();
        pictured = new Ledger();
        past = new Past();
        text = new Text();
        told = new int[MOST_ROW];
        refusals = new int[1 - ROOM];
        imagined = new Family();
        instead = new Family();
        tried = new int[MOST_ORDERED];
        best = new int[MOST_ORDERED];
    }

    // ---- I. families, works, years, letters

    public int feed(int letter) {
        int no = outside(letter, 0, MOST_LETTER);
        if (no == 0 && text.isFull()) no = ROOM;
        return no != 0 ? refused(no) : text.add(letter);
    }

    public int treasury() {
        mind.copy(now);
        int answer = text.faultOfForm();
        int place = 0;
        for (int k = 0; k < MOST_LETTERS && answer >= 0 && place < text.count; k++) {
            boolean fits = text.enact(place, mind) >= 0;
            answer = fits ? answer + 1 : FAULT_OF_SENSE - place;
            place += text.lengthAt(place);
        }
        text.empty();
        if (answer > 0) {
            now.copy(mind);
            past.forget();
        }
        return answer;
    }

    public int familyOf(int family, int what) {
        int no = now.lacksFamily(family);
        if (no == 0) no = otherThan(what, 4);
        if (no != 0) return refused(no);
        Family asked = now.at(family);
        switch (what) {
            case 0: return asked.heads;
            case 1: return asked.debt;
            case 2: return asked.pays;
            case 3: return asked.births;
            default: return asked.headOwes();
        }
    }

    public int workOf(int work, int what) {
        Work asked = now.workAt(work);
        if (asked == null) return refused(NOBODY);
        if (otherThan(what, 4) != 0) return refused(OTHER);
        switch (what) {
            case 0: return asked.kind();
            case 1: return asked.figure;
            case 2: return asked.cost;
            case 3: return asked.due();
            default: return now.isBuilt(work) ? 1 : 0;
        }
    }

    public int family(int heads, int pays, int births) {
        return withoutPast(now.takeFamily(heads, pays, births));
    }

    public int work(int kind, int figure, int cost) {
        return withoutPast(now.takeWork(kind, figure, cost));
    }

    public int builds(int work) {
        mind.copy(now);
        return withPast(now.build(work));
    }

    public int years(int n) {
        mind.copy(now);
        return withPast(now.takeYears(n));
    }

    public int debt(int family, int v) {
        mind.copy(now);
        return withPast(now.takeDebt(family, v));
    }

    public int rate(int v) {
        mind.copy(now);
        return withPast(now.takeRate(v));
    }

    // ---- II. in mind

    public int behind(int family, int n, int what) {
        int no = noFamilyAhead(family, n);
        if (no == 0) no = otherThan(what, 2);
        if (no != 0) return refused(no);
        ahead(family, n);
        switch (what) {
            case 0: return imagined.debt;
            case 1: return imagined.heads;
            default: return imagined.headOwes();
        }
    }

    public int all(int n) {
        int no = notAhead(n);
        if (no != 0) return refused(no);
        mind.copy(now);
        return mind.allDebtsBehind(n);
    }

    public int solvent(int family) {
        int no = now.lacksFamily(family);
        return no != 0 ? refused(no) : freeBehind(family, 0);
    }

    public int first(int what) {
        switch (what) {
            case 0: return firstFree();
            case 1: return growing();
            case 2: return firstStuck();
            default: return refused(OTHER);
        }
    }

    public int highest(int family, int n, int what) {
        int no = noFamilyAhead(family, n);
        if (no == 0) no = otherThan(what, 1);
        if (no != 0) return refused(no);
        return what == 0 ? highestRate(family, n) : leastPay(family, n);
    }

    public int building(int n, int v, int what) {
        int no = eitherOutside(n, MOST_AHEAD, v, MOST_OWED);
        if (no == 0) no = otherThan(what, 1);
        if (no != 0) return refused(no);
        int set = NONE;
        int most = NONE;
        for (int bits = 0; bits < now.sets(); bits++) {
            int cost = now.costOf(bits);
            if ((bits & now.built) == 0 && cost > most && isBearable(bits, n, v)) {
                set = bits;
                most = cost;
            }
        }
        return what == 0 ? set : most;
    }

    public int oneMore(int n) {
        int no = notAhead(n);
        if (no != 0) return refused(no);
        int found = NONE;
        int least = GREATEST;
        for (int w = 0; w < now.workCount; w++) {
            if (now.isBuilt(w)) continue;
            mind.copy(now);
            mind.charge(w);
            int debts = mind.allDebtsBehind(n);
            if (debts < least) {
                least = debts;
                found = w;
            }
        }
        return found;
    }

    public int share(int work, int family) {
        int no = now.lacksEither(work, family);
        return no != 0 ? refused(no) : now.shareOf(work, family);
    }

    public int pulledDown(int work, int family, int n) {
        int no = now.lacksEither(work, family);
        if (no == 0) no = notAhead(n);
        if (no != 0) return refused(no);
        instead.copy(now.at(family));
        instead.pay(now.shareOf(work, family));
        instead.passYears(now.rate, now.year, n);
        ahead(family, n);
        return imagined.debt - instead.debt;
    }

    public int merger(int one, int other, int n) {
        int no = noTwoAhead(one, other, n);
        return no != 0 ? refused(no) : mergedHeadOwes(one, other, n);
    }

    public int bestMerger(int n) {
        int no = notAhead(n);
        if (no != 0) return refused(no);
        int found = NONE;
        int least = GREATEST;
        for (int a = 0; a < now.familyCount; a++) {
            for (int b = a + 1; b < now.familyCount; b++) {
                int owed = mergedHeadOwes(a, b, n);
                if (owed < least && owed < headOwesBehind(a, n) && owed < headOwesBehind(b, n)) {
                    least = owed;
                    found = 10 * a + b;
                }
            }
        }
        return found;
    }

    public long child(int family, int part) {
        int no = now.lacksFamily(family);
        if (no == 0) no = otherThan(part, 1);
        if (no != 0) return LONG_REFUSALS - refused(no);
        return inLowestTerms(now.at(family).debt, now.at(family).heads, part);
    }

    public int cheapest(int n, int what) {
        int no = notAhead(n);
        if (no == 0) no = otherThan(what, 1);
        if (no != 0) return refused(no);
        return what == 0 ? cheapestFamily() : bornFree(n);
    }

    public int treaty(int one, int other, int n) {
        int no = noTwoAhead(one, other, n);
        return no != 0 ? refused(no) : 10 * signedPay(one, n) + signedPay(other, n);
    }

    public int signature(int work, int what) {
        Work asked = now.workAt(work);
        if (asked == null) return refused(NOBODY);
        if (otherThan(what, 1) != 0) return refused(OTHER);
        int heads = now.headsOf(now.everybody());
        int bearable = up(asked.cost, heads);
        int signing = 0;
        for (int f = 0; f < now.familyCount; f++) {
            int of = now.at(f).heads;
            if (up(now.shareOf(work, f), of) <= bearable) signing += of;
        }
        if (what == 0) return signing;
        return 2 * signing > heads ? 1 : 0;
    }

    public int whoBuilt(int what) {
        if (otherThan(what, 1) != 0) return refused(OTHER);
        if (toldCount != now.familyCount) return refused(STATE);
        int sets = 0;
        int least = NONE;
        for (int bits = 0; bits < now.sets(); bits++) {
            if (!isToldBy(bits)) continue;
            if (sets == 0) least = bits;
            sets++;
        }
        return what == 0 ? sets : least;
    }

    public long births(int family, int n, int v, int t, int part) {
        int no = now.lacksFamily(family);
        if (no == 0 && (n < 0 || v < 0 || t < 2)) no = BELOW;
        if (no == 0 && (n > MOST_CHANCES || v > MOST_OWED || t > MOST_ODDS)) no = ROOM;
        if (no == 0) no = otherThan(part, 1);
        if (no != 0) return LONG_REFUSALS - refused(no);
        long good = 0;
        long every = 0;
        for (int born = 0; born < 1 << n; born++) {
            long ways = waysOf(born, n, t);
            every += ways;
            bearByChance(family, born, n);
            if (imagined.headOwes() <= v) good += ways;
        }
        return inLowestTerms(good, every, part);
    }

    // ---- III. taken back, orders of building, fairness

    public int back() {
        if (past.count == 0) return refused(STATE);
        past.takeBack(now);
        return past.count;
    }

    public int oldest(int what) {
        if (otherThan(what, 1) != 0) return refused(OTHER);
        return now.builtAs(what == 0 ? 0 : now.builtCount - 1);
    }

    public int order(int i) {
        if (i < -1) return refused(BELOW);
        int left = now.workCount - now.builtCount;
        if (left > MOST_ORDERED) return refused(STATE);
        int least = GREATEST;
        int orders = factorial(left);
        for (int number = 0; number < orders; number++) {
            arrange(number, left);
            int debts = debtsAsTried(left);
            if (debts < least) {
                least = debts;
                System.arraycopy(tried, 0, best, 0, Math.min(tried.length, best.length));
            }
        }
        if (i == -1) return least;
        return i < left && i < best.length ? best[i] : NONE;
    }

    public int jubilee(int n) {
        int no = notAhead(n);
        if (no != 0) return refused(no);
        int found = NONE;
        int least = GREATEST;
        for (int f = 0; f < now.familyCount; f++) {
            mind.copy(now);
            mind.at(f).debt = 0;
            int debts = mind.allDebtsBehind(n);
            if (debts < least) {
                least = debts;
                found = f;
            }
        }
        return found;
    }

    public int fair(int what) {
        if (otherThan(what, 1) != 0) return refused(OTHER);
        int most = ranked(0);
        if (what == 1 || most == NONE) return what == 1 ? most : 0;
        int least = ranked(now.familyCount - 1);
        return now.at(most).headOwes() - now.at(least).headOwes();
    }

    // ---- IV. peaks, pays, ranks, told rows, lots

    public int peak(int family, int n, int what) {
        int no = noFamilyAhead(family, n);
        if (no == 0) no = otherThan(what, 1);
        if (no != 0) return refused(no);
        imagined.copy(now.at(family));
        int most = imagined.debt;
        int when = 0;
        for (int k = 1; k <= n; k++) {
            imagined.passYear(now.rate, now.year + k);
            if (imagined.debt > most) {
                most = imagined.debt;
                when = k;
            }
        }
        return what == 0 ? most : when;
    }

    public int interest(int family, int n) {
        int no = noFamilyAhead(family, n);
        if (no != 0) return refused(no);
        ahead(family, n);
        return imagined.added;
    }

    public int doubled(int family) {
        int no = now.lacksFamily(family);
        if (no != 0) return refused(no);
        imagined.copy(now.at(family));
        int twice = 2 * imagined.debt;
        for (int n = 1; twice > 0 && n <= MOST_AHEAD; n++) {
            imagined.passYear(now.rate, now.year + n);
            if (imagined.debt >= twice) return n;
        }
        return NONE;
    }

    public int commonPay(int n, int v) {
        int no = eitherOutside(n, MOST_AHEAD, v, MOST_DEBT);
        if (no != 0) return refused(no);
        for (int pays = 0; pays <= MOST_DIGIT; pays++) {
            mind.copy(now);
            for (int f = 0; f < mind.familyCount; f++) mind.at(f).pays = pays;
            if (mind.allDebtsBehind(n) <= v) return pays;
        }
        return NONE;
    }

    public int bestBirths(int family, int n) {
        int no = noFamilyAhead(family, n);
        if (no != 0) return refused(no);
        int found = 0;
        int least = GREATEST;
        for (int births = 0; births <= MOST_DIGIT; births++) {
            imagined.copy(now.at(family));
            imagined.births = births;
            imagined.passYears(now.rate, now.year, n);
            if (imagined.headOwes() < least) {
                least = imagined.headOwes();
                found = births;
            }
        }
        return found;
    }

    public int lump(int family, int v) {
        int no = now.lacksFamily(family);
        if (no == 0) no = outside(v, 0, MOST_LUMP);
        return no != 0 ? refused(no) : freeBehind(family, v);
    }

    public int crosses(int one, int other) {
        int no = now.lacksTwo(one, other);
        if (no != 0) return refused(no);
        mind.copy(now);
        for (int n = 0; n <= MOST_AHEAD; n++) {
            if (mind.at(one).headOwes() < mind.at(other).headOwes()) return n;
            mind.passYear();
        }
        return NONE;
    }

    public int heir(int family) {
        int no = now.lacksFamily(family);
        if (no != 0) return refused(no);
        mind.copy(now);
        int heirs = mind.everybody() & ~(1 << family);
        mind.shareByHeads(mind.at(family).debt, heirs);
        mind.oweShares();
        int most = NONE;
        for (int f = 0; f < mind.familyCount; f++) {
            if (f != family) most = Math.max(most, mind.at(f).headOwes());
        }
        return most;
    }

    public int rank(int i) {
        return i < 0 ? refused(BELOW) : ranked(i);
    }

    public int half() {
        mind.copy(now);
        int debts = mind.allDebts();
        for (int n = 0; n <= MOST_AHEAD; n++) {
            if (2 * mind.allDebts() <= debts) return n;
            mind.passYear();
        }
        return NONE;
    }

    public int row(int v) {
        int no = outside(v, 0, MOST_TOLD);
        if (no == 0 && toldCount >= told.length) no = ROOM;
        if (no != 0) return refused(no);
        if (toldCount < told.length) told[toldCount] = v;
        toldCount++;
        return toldCount;
    }

    public int judge(int family) {
        int no = now.lacksFamily(family);
        if (no != 0) return refused(no);
        int many = clear();
        imagined.copy(now.at(family));
        for (int n = 0; n < many; n++) {
            if (!isTold(n, imagined.headOwes())) return n;
            imagined.passYear(now.rate, now.year + n + 1);
        }
        return NONE;
    }

    public int clear() {
        int had = toldCount;
        toldCount = 0;
        return had;
    }

    public int lots(int n, int z, int what) {
        int no = outside(n, 1, MOST_CENTURIES);
        if (no == 0) no = otherThan(what, 1);
        if (no != 0) return refused(no);
        int seed = z;
        int debts = 0;
        int free = 0;
        for (int century = 0; century < n; century++) {
            mind.copy(now);
            seed = nextSeed(seed);
            mind.rate = drawBelow(10, seed);
            for (int f = 0; f < mind.familyCount; f++) {
                seed = nextSeed(seed);
                mind.at(f).pays = drawBelow(10, seed);
            }
            debts += mind.allDebtsBehind(CENTURY);
            free += mind.oweNothing();
        }
        return what == 0 ? debts : free;
    }

    // ---- the image, counts

    public int image() {
        pictured.copy(now);
        isPictured = true;
        return now.year;
    }

    public int restore() {
        if (!isPictured) return refused(STATE);
        now.copy(pictured);
        past.forget();
        return now.year;
    }

    public int count(int what) {
        switch (what) {
            case 0: return now.familyCount;
            case 1: return now.workCount;
            case 2: return now.year;
            case 3: return now.rate;
            case 4: return now.headsOf(now.everybody());
            case 5: return now.allDebts();
            case 6: return now.built;
            case 7: return text.count;
            case 8: return toldCount;
            case 9: return past.count;
            default: return what > 10 && what - 10 < refusals.length ? refusals[what - 10] : NONE;
        }
    }

    // ---- what is refused

    private int refused(int number) {
        int at = -number;
        if (at >= 0 && at < refusals.length) refusals[at]++;
        return number;
    }

    private int withoutPast(int answer) {
        if (answer < 0) return refused(answer);
        past.forget();
        return answer;
    }

    /** The caller has put into mind how all was ahead of the call. */
    private int withPast(int answer) {
        if (answer < 0) return refused(answer);
        past.keep(mind);
        return answer;
    }

    private static int outside(int number, int least, int greatest) {
        if (number < least) return BELOW;
        return number > greatest ? ROOM : 0;
    }

    private static int eitherOutside(int n, int greatestN, int v, int greatestV) {
        if (n < 0 || v < 0) return BELOW;
        return n > greatestN || v > greatestV ? ROOM : 0;
    }

    private static int otherThan(int what, int last) {
        return what < 0 || what > last ? OTHER : 0;
    }

    private static int notAhead(int n) {
        return outside(n, 0, MOST_AHEAD);
    }

    private int noFamilyAhead(int family, int n) {
        int no = now.lacksFamily(family);
        return no != 0 ? no : notAhead(n);
    }

    private int noTwoAhead(int a, int b, int n) {
        int no = now.lacksTwo(a, b);
        return no != 0 ? no : notAhead(n);
    }

    // ---- one family in mind

    private void ahead(int family, int n) {
        imagined.copy(now.at(family));
        imagined.passYears(now.rate, now.year, n);
    }

    private int headOwesBehind(int family, int n) {
        ahead(family, n);
        return imagined.headOwes();
    }

    private int freeBehind(int family, int lump) {
        imagined.copy(now.at(family));
        for (int n = 0; n <= MOST_AHEAD; n++) {
            if (imagined.debt == 0) return n;
            imagined.passYear(now.rate, now.year + n + 1);
            imagined.pay(lump);
        }
        return NONE;
    }

    private int highestRate(int family, int n) {
        for (int rate = MOST_RATE; rate >= 0; rate--) {
            imagined.copy(now.at(family));
            imagined.passYears(rate, now.year, n);
            if (imagined.debt == 0) return rate;
        }
        return NONE;
    }

    private int leastPay(int family, int n) {
        for (int pays = 0; pays <= MOST_DIGIT; pays++) {
            imagined.copy(now.at(family));
            imagined.pays = pays;
            imagined.passYears(now.rate, now.year, n);
            if (imagined.debt == 0) return pays;
        }
        return NONE;
    }

    private int mergedHeadOwes(int a, int b, int n) {
        Family joining = now.at(b);
        imagined.copy(now.at(a));
        imagined.heads = Math.min(MOST_HEADS, imagined.heads + joining.heads);
        imagined.owe(joining.debt);
        imagined.passYears(now.rate, now.year, n);
        return imagined.headOwes();
    }

    /** What the one does changes nothing for the other, so each takes its own least, and there is always a pair. */
    private int signedPay(int family, int n) {
        int pays = now.at(family).pays;
        int asNow = costOfPaying(pays, family, n);
        return costOfPaying(Math.min(MOST_DIGIT, pays + 1), family, n) < asNow ? 1 : 0;
    }

    private int costOfPaying(int pays, int family, int n) {
        imagined.copy(now.at(family));
        imagined.pays = pays;
        imagined.passYears(now.rate, now.year, n);
        return imagined.paid + imagined.debt;
    }

    /** How many of all ways there are for the YEARS told by bits to be those with a birth. */
    private static long waysOf(int born, int n, int t) {
        long ways = 1;
        for (int k = 0; k < n; k++) {
            if ((born >> k & 1) == 0) ways *= t - 1;
        }
        return ways;
    }

    private void bearByChance(int family, int born, int n) {
        imagined.copy(now.at(family));
        for (int k = 0; k < n; k++) {
            imagined.settle(now.rate);
            if ((born >> k & 1) == 1) imagined.bear();
        }
    }

    // ---- all families

    private int firstFree() {
        int found = NONE;
        int least = MOST_AHEAD + 1;
        for (int f = 0; f < now.familyCount; f++) {
            int n = freeBehind(f, 0);
            if (n != NONE && n < least) {
                least = n;
                found = f;
            }
        }
        return found;
    }

    private int growing() {
        int bits = 0;
        for (int f = 0; f < now.familyCount; f++) {
            ahead(f, 1);
            if (imagined.debt > now.at(f).debt) bits |= 1 << f;
        }
        return bits;
    }

    private int firstStuck() {
        mind.copy(now);
        for (int n = 0; n <= MOST_AHEAD; n++) {
            if (mind.isStuck()) return n;
            mind.passYear();
        }
        return NONE;
    }

    private int cheapestFamily() {
        int found = NONE;
        for (int f = 0; f < now.familyCount; f++) {
            if (found == NONE || now.at(f).isCheaperThan(now.at(found))) found = f;
        }
        return found;
    }

    private int bornFree(int n) {
        int children = 0;
        for (int f = 0; f < now.familyCount; f++) {
            ahead(f, n);
            children += imagined.bornFree;
        }
        return children;
    }

    private int ranked(int i) {
        for (int f = 0; f < now.familyCount; f++) {
            if (ranksAbove(f) == i) return f;
        }
        return NONE;
    }

    private int ranksAbove(int family) {
        int owed = now.at(family).headOwes();
        int above = 0;
        for (int f = 0; f < now.familyCount; f++) {
            int others = now.at(f).headOwes();
            if (others > owed || others == owed && f < family) above++;
        }
        return above;
    }

    // ---- sets and orders of works

    private boolean isBearable(int works, int n, int v) {
        mind.copy(now);
        mind.chargeSet(works);
        mind.passYears(n);
        for (int f = 0; f < mind.familyCount; f++) {
            if (mind.at(f).headOwes() > v) return false;
        }
        return true;
    }

    private boolean isToldBy(int works) {
        mind.copy(now);
        for (int f = 0; f < mind.familyCount; f++) mind.at(f).debt = 0;
        mind.chargeSet(works);
        for (int f = 0; f < mind.familyCount; f++) {
            if (!isTold(f, mind.at(f).debt)) return false;
        }
        return true;
    }

    private boolean isTold(int place, int amount) {
        return place >= 0 && place < told.length && told[place] == Math.min(MOST_TOLD, amount);
    }

    private static int factorial(int n) {
        int product = 1;
        for (int k = 2; k <= n; k++) product *= k;
        return product;
    }

    /** Puts into tried the order with this number, of all orders of the works not built, the lesser works first. */
    private void arrange(int number, int left) {
        int rest = number;
        int used = now.built;
        for (int i = 0; i < left && i < tried.length; i++) {
            int below = factorial(left - 1 - i);
            int skipped = below < 1 ? 0 : rest / below;
            rest -= skipped * below;
            int work = now.unusedWork(used, skipped);
            used |= 1 << work;
            tried[i] = work;
        }
    }

    private int debtsAsTried(int left) {
        mind.copy(now);
        for (int i = 0; i < left && i < tried.length; i++) {
            mind.charge(tried[i]);
            mind.passYear();
        }
        return mind.allDebts();
    }

    // ---- numbers

    private static int up(int amount, int by) {
        return by < 1 ? 0 : (amount + by - 1) / by;
    }

    private static long inLowestTerms(long above, long below, int part) {
        long divisor = commonDivisor(above, below);
        if (divisor < 1) return part == 0 ? 0 : 1;
        return (part == 0 ? above : below) / divisor;
    }

    private static long commonDivisor(long a, long b) {
        long greater = a;
        long lesser = b;
        for (int k = 0; k < 1000 && lesser != 0; k++) {
            long rest = greater % lesser;
            greater = lesser;
            lesser = rest;
        }
        return greater;
    }

    private static int nextSeed(int z) {
        return z * 1103515245 + 12345;
    }

    private static int drawBelow(int n, int z) {
        return n < 1 ? 0 : (z & GREATEST) / 65536 % n;
    }

    /** A family, with what came to it since it was copied: interest, payments, children born owing nothing. */
    private static final class Family {
        int heads;
        int debt;
        int pays;
        int births;
        int added;
        int paid;
        int bornFree;

        void become(int newHeads, int newPays, int newBirths) {
            heads = newHeads;
            debt = 0;
            pays = newPays;
            births = newBirths;
        }

        void copy(Family from) {
            heads = from.heads;
            debt = from.debt;
            pays = from.pays;
            births = from.births;
            added = 0;
            paid = 0;
            bornFree = 0;
        }

        int headOwes() {
            return up(debt, heads);
        }

        boolean isCheaperThan(Family than) {
            return debt * than.heads < than.debt * heads;
        }

        void owe(int more) {
            debt = debt + more > MOST_DEBT ? MOST_DEBT : debt + more;
        }

        void pay(int amount) {
            int can = amount > debt ? debt : amount;
            debt -= can;
            paid += can;
        }

        void settle(int rate) {
            int was = debt;
            owe(debt * rate / 100);
            added += debt - was;
            pay(pays * heads);
        }

        void bear() {
            if (heads >= MOST_HEADS) return;
            heads++;
            if (debt == 0) bornFree++;
        }

        void passYear(int rate, int year) {
            settle(rate);
            if (births > 0 && year % births == 0) bear();
        }

        void passYears(int rate, int from, int n) {
            for (int k = 1; k <= n; k++) passYear(rate, from + k);
        }
    }

    private static class Work {
        final int figure;
        final int cost;

        Work(int itsFigure, int itsCost) {
            figure = itsFigure;
            cost = itsCost;
        }

        int kind() {
            return 0;
        }

        int due() {
            return cost;
        }

        void shareOut(Ledger ledger) {
            ledger.shareAlike(due());
        }
    }

    private static class Bridge extends Work {
        Bridge(int itsFigure, int itsCost) {
            super(itsFigure, itsCost);
        }

        int kind() {
            return 1;
        }

        int due() {
            return super.due() + figure;
        }

        int sharers(Ledger ledger) {
            return ledger.everybody();
        }

        void shareOut(Ledger ledger) {
            ledger.shareByHeads(due(), sharers(ledger));
        }
    }

    private static class War extends Work {
        War(int itsFigure, int itsCost) {
            super(itsFigure, itsCost);
        }

        int kind() {
            return 2;
        }

        int due() {
            return 2 * super.due();
        }

        int payer(Ledger ledger) {
            return ledger.mostHeads();
        }

        void shareOut(Ledger ledger) {
            ledger.shareToOne(due(), payer(ledger));
        }
    }

    private static final class Cradle extends Bridge {
        Cradle(int itsFigure, int itsCost) {
            super(itsFigure, itsCost);
        }

        int kind() {
            return 3;
        }

        int due() {
            return super.due() / 2;
        }

        int sharers(Ledger ledger) {
            int bearing = ledger.bearing();
            return bearing != 0 ? bearing : ledger.everybody();
        }
    }

    private static final class Pen extends War {
        Pen(int itsFigure, int itsCost) {
            super(itsFigure, itsCost);
        }

        int kind() {
            return 4;
        }

        int due() {
            return Math.max(1, super.due() - figure);
        }

        int payer(Ledger ledger) {
            return ledger.leastDebt();
        }
    }

    private static final class Ruin extends Bridge {
        Ruin(int itsFigure, int itsCost) {
            super(itsFigure, itsCost);
        }

        int kind() {
            return 5;
        }

        int due() {
            return super.due() + cost;
        }
    }

    /** All that there is of chapter I but the letters: it is held now, thought of, kept to be taken back, pictured. */
    private static final class Ledger {
        int familyCount;
        int workCount;
        int year;
        int rate;
        int built;
        int builtCount;
        final Family[] families;
        final Work[] works;
        final int[] builtOrder;
        final int[] shares;

        Ledger() {
            rate = 5;
            families = new Family[MOST_FAMILIES];
            for (int f = 0; f < families.length; f++) families[f] = new Family();
            works = new Work[MOST_WORKS];
            builtOrder = new int[MOST_WORKS];
            shares = new int[MOST_FAMILIES];
        }

        void copy(Ledger from) {
            familyCount = from.familyCount;
            workCount = from.workCount;
            year = from.year;
            rate = from.rate;
            built = from.built;
            builtCount = from.builtCount;
            for (int f = 0; f < familyCount; f++) at(f).copy(from.at(f));
            for (int w = 0; w < works.length && w < builtOrder.length; w++) {
                works[w] = from.workAt(w);
                builtOrder[w] = from.builtAs(w);
            }
        }

        /** The first one stands for a number that there is not, so that no caller meets null. */
        Family at(int family) {
            return families[family >= 0 && family < families.length ? family : 0];
        }

        Work workAt(int work) {
            return work >= 0 && work < workCount && work < works.length ? works[work] : null;
        }

        int builtAs(int i) {
            return i >= 0 && i < builtCount && i < builtOrder.length ? builtOrder[i] : NONE;
        }

        boolean isBuilt(int work) {
            return (built >> work & 1) == 1;
        }

        // -- what is refused

        int lacksFamily(int family) {
            return family < 0 || family >= familyCount ? NOBODY : 0;
        }

        int lacksTwo(int a, int b) {
            return a == b || lacksFamily(a) != 0 ? NOBODY : lacksFamily(b);
        }

        int lacksEither(int work, int family) {
            return workAt(work) == null ? NOBODY : lacksFamily(family);
        }

        // -- what comes: the answer, or the refusal with which nothing comes

        int takeFamily(int heads, int pays, int births) {
            if (heads < 1 || pays < 0 || births < 0) return BELOW;
            if (heads > MOST_HEADS || pays > MOST_DIGIT || births > MOST_DIGIT) return ROOM;
            if (familyCount >= families.length) return ROOM;
            at(familyCount).become(heads, pays, births);
            familyCount++;
            return familyCount - 1;
        }

        int takeWork(int kind, int figure, int cost) {
            if (otherThan(kind, 5) != 0) return OTHER;
            if (figure < 0 || cost < 1) return BELOW;
            if (figure > MOST_DIGIT || cost > MOST_COST) return ROOM;
            if (workCount >= works.length) return ROOM;
            works[workCount] = newWork(kind, figure, cost);
            workCount++;
            return workCount - 1;
        }

        private static Work newWork(int kind, int figure, int cost) {
            switch (kind) {
                case 1: return new Bridge(figure, cost);
                case 2: return new War(figure, cost);
                case 3: return new Cradle(figure, cost);
                case 4: return new Pen(figure, cost);
                case 5: return new Ruin(figure, cost);
                default: return new Work(figure, cost);
            }
        }

        int build(int work) {
            Work asked = workAt(work);
            if (asked == null) return NOBODY;
            if (isBuilt(work)) return STATE;
            asked.shareOut(this);
            oweShares();
            built |= 1 << work;
            if (builtCount < builtOrder.length) builtOrder[builtCount] = work;
            builtCount++;
            return allDebts();
        }

        int takeYears(int n) {
            int no = outside(n, 1, MOST_YEARS);
            if (no != 0) return no;
            if (year + n > MOST_YEAR) return ROOM;
            passYears(n);
            return allDebts();
        }

        int takeDebt(int family, int v) {
            int no = lacksFamily(family);
            if (no == 0) no = outside(v, 0, MOST_DEBT);
            if (no != 0) return no;
            int was = at(family).debt;
            at(family).debt = v;
            return was;
        }

        int takeRate(int v) {
            int no = outside(v, 0, MOST_RATE);
            if (no != 0) return no;
            int was = rate;
            rate = v;
            return was;
        }

        // -- years

        void passYear() {
            passYears(1);
        }

        void passYears(int n) {
            for (int k = 0; k < n; k++) {
                year++;
                for (int f = 0; f < familyCount; f++) at(f).passYear(rate, year);
            }
        }

        int allDebtsBehind(int n) {
            passYears(n);
            return allDebts();
        }

        // -- families, told by bits

        int everybody() {
            return (1 << familyCount) - 1;
        }

        int bearing() {
            int bits = 0;
            for (int f = 0; f < familyCount; f++) {
                if (at(f).births > 0) bits |= 1 << f;
            }
            return bits;
        }

        int headsOf(int bits) {
            int heads = 0;
            for (int f = 0; f < familyCount; f++) {
                if ((bits >> f & 1) == 1) heads += at(f).heads;
            }
            return heads;
        }

        int mostHeads() {
            int found = 0;
            for (int f = 1; f < familyCount; f++) {
                if (at(f).heads > at(found).heads) found = f;
            }
            return found;
        }

        int leastDebt() {
            int found = 0;
            for (int f = 1; f < familyCount; f++) {
                if (at(f).debt < at(found).debt) found = f;
            }
            return found;
        }

        int allDebts() {
            int debts = 0;
            for (int f = 0; f < familyCount; f++) debts += at(f).debt;
            return debts;
        }

        int oweNothing() {
            int free = 0;
            for (int f = 0; f < familyCount; f++) {
                if (at(f).debt == 0) free++;
            }
            return free;
        }

        boolean isStuck() {
            for (int f = 0; f < familyCount; f++) {
                if (at(f).debt == MOST_DEBT) return true;
            }
            return false;
        }

        // -- shares

        void shareAlike(int amount) {
            int each = familyCount < 1 ? 0 : amount / familyCount;
            for (int f = 0; f < shares.length; f++) shares[f] = f < familyCount ? each : 0;
            shareLeftOver(amount - each * familyCount, everybody());
        }

        void shareByHeads(int amount, int sharers) {
            int heads = headsOf(sharers);
            int left = amount;
            for (int f = 0; f < shares.length; f++) {
                boolean shared = (sharers >> f & 1) == 1 && heads > 0;
                shares[f] = shared ? amount * at(f).heads / heads : 0;
                left -= shares[f];
            }
            shareLeftOver(left, sharers);
        }

        private void shareLeftOver(int amount, int sharers) {
            int left = amount;
            for (int f = 0; f < shares.length && left > 0; f++) {
                if ((sharers >> f & 1) == 0) continue;
                shares[f]++;
                left--;
            }
        }

        void shareToOne(int amount, int payer) {
            for (int f = 0; f < shares.length; f++) shares[f] = f == payer && f < familyCount ? amount : 0;
        }

        int shareOf(int work, int family) {
            Work asked = workAt(work);
            if (asked == null || family < 0 || family >= shares.length) return 0;
            asked.shareOut(this);
            return shares[family];
        }

        void oweShares() {
            for (int f = 0; f < familyCount && f < shares.length; f++) at(f).owe(shares[f]);
        }

        /** The debts of a work being built; whether it is built already is not asked. */
        void charge(int work) {
            Work charged = workAt(work);
            if (charged == null) return;
            charged.shareOut(this);
            oweShares();
        }

        void chargeSet(int bits) {
            for (int w = 0; w < workCount; w++) {
                if ((bits >> w & 1) == 1) charge(w);
            }
        }

        // -- sets of works, told by bits

        int sets() {
            return 1 << workCount;
        }

        int costOf(int bits) {
            int cost = 0;
            for (int w = 0; w < workCount; w++) {
                Work work = workAt(w);
                if (work != null && (bits >> w & 1) == 1) cost += work.cost;
            }
            return cost;
        }

        int unusedWork(int used, int skipped) {
            int ahead = 0;
            for (int w = 0; w < workCount; w++) {
                if ((used >> w & 1) == 1) continue;
                if (ahead == skipped) return w;
                ahead++;
            }
            return 0;
        }
    }

    /** How all was ahead of the latest calls: a ring, in which a ninth takes the place of the oldest. */
    private static final class Past {
        final Ledger[] ledgers;
        int next;
        int count;

        Past() {
            ledgers = new Ledger[MOST_BACK];
            for (int k = 0; k < ledgers.length; k++) ledgers[k] = new Ledger();
        }

        private Ledger kept(int place) {
            return ledgers[place >= 0 && place < ledgers.length ? place : 0];
        }

        void keep(Ledger ledger) {
            kept(next).copy(ledger);
            next = (next + 1) % MOST_BACK;
            count = Math.min(MOST_BACK, count + 1);
        }

        void takeBack(Ledger into) {
            next = (next + MOST_BACK - 1) % MOST_BACK;
            into.copy(kept(next));
            count--;
        }

        void forget() {
            count = 0;
        }
    }

    /** The letters of a treasury. */
    private static final class Text {
        final int[] letters;
        int count;

        Text() {
            letters = new int[MOST_LETTERS];
        }

        boolean isFull() {
            return count >= letters.length;
        }

        int add(int letter) {
            if (count < letters.length) letters[count] = letter;
            count++;
            return count;
        }

        void empty() {
            count = 0;
        }

        int faultOfForm() {
            int place = 0;
            for (int k = 0; k <= MOST_LETTERS; k++) {
                place = placeBehind(place);
                if (place < 0) return place;
                if (place >= count) break;
            }
            return 0;
        }

        /** The place behind the statement that begins here, or the fault of its form. */
        private int placeBehind(int place) {
            int digits = digitsBehind(letterAt(place));
            if (digits == 0) return FAULT_OF_FORM - place;
            for (int k = 1; k <= digits; k++) {
                if (!isDigit(letterAt(place + k))) return FAULT_OF_FORM - (place + k);
            }
            int end = place + digits + 1;
            return letterAt(end) == ';' ? end + 1 : FAULT_OF_FORM - end;
        }

        int lengthAt(int place) {
            return digitsBehind(letterAt(place)) + 2;
        }

        /** Into the ledger comes the statement that begins here: below 0 it does not fit. */
        int enact(int place, Ledger ledger) {
            switch (letterAt(place)) {
                case 'f': return ledger.takeFamily(number(place + 1, 2), number(place + 3, 1), number(place + 4, 1));
                case 'w': return ledger.takeWork(number(place + 1, 1), number(place + 2, 1), number(place + 3, 3));
                case 'b': return ledger.build(number(place + 1, 1));
                case 'r': return ledger.takeRate(number(place + 1, 2));
                case 'y': return ledger.takeYears(number(place + 1, 2));
                case 'd': return ledger.takeDebt(number(place + 1, 1), number(place + 2, 5));
                default: return OTHER;
            }
        }

        private static int digitsBehind(int letter) {
            switch (letter) {
                case 'f': return 4;
                case 'w': return 5;
                case 'b': return 1;
                case 'r': return 2;
                case 'y': return 2;
                case 'd': return 6;
                default: return 0;
            }
        }

        private int letterAt(int place) {
            return place >= 0 && place < count && place < letters.length ? letters[place] : -1;
        }

        private static boolean isDigit(int letter) {
            return letter >= '0' && letter <= '9';
        }

        private int number(int place, int digits) {
            int number = 0;
            for (int k = 0; k < digits; k++) number = 10 * number + letterAt(place + k) - '0';
            return number;
        }
    }
}
