/** Names on a list, an office that looks at some of them by lot, and those who cheat it. */
public final class NamesByLot {
    public static final int NONE = -6, UNKNOWN = -1, OUTSIDE = -2, STATE = -3, FULL = -4, NO = -5;
    public static final long LOST = -1000000000000000000L;

    private static final int GRANTED = 0;
    private static final int SHEETS = 6, EVERY_SHEET = (1 << SHEETS) - 1;
    private static final int GATHERERS = 5, LETTERS = 26;
    private static final int PAD_ROOM = 16, SHEET_ROOM = 10, RULE_ROOM = 11;
    private static final int LIST_ROOM = SHEETS * SHEET_ROOM, PAIRS_ROOM = LIST_ROOM / 2;
    private static final int NUMBER_MOST = 60, FIRST_NEED = 30, ADDED_MOST = 30;
    private static final int DOUBT_MOST = 1000, CENTS_MOST = 999, TENTHS = 10;
    private static final int SEED_MOST = 9999, SEED_TIMES = 75, SEED_PLUS = 74, SEED_RING = 65537;
    private static final int TOLD_GATHERERS = 10, TOLD_NAMES = 20;
    // Euclid's way needs fewer than 100 steps for any two longs.
    private static final int EUCLID_MOST = 200;
    private static final String FIRST_RULE = "-/*Nvk/*dNk";

    private final Text pad;
    private final Register now;
    private final Register firstImage;
    private final Register secondImage;
    private final Tally list;
    private final Tally some;
    private final Lots lots;
    private final Reckoner reckoner;
    private final Fraction result;
    private final Fraction other;
    private final int[] left;

    public NamesByLot() {
        pad = new Text(PAD_ROOM);
        now = new Register();
        firstImage = new Register();
        secondImage = new Register();
        list = new Tally();
        some = new Tally();
        lots = new Lots();
        reckoner = new Reckoner();
        result = new Fraction();
        other = new Fraction();
        left = new int[LIST_ROOM];
    }

    // ---- 1 sheets

    public int say(int sign) {
        if (!isWithin(sign, 33, 126)) {
            return OUTSIDE;
        }
        return pad.append(sign) ? pad.size : FULL;
    }

    public int wipe() {
        int gone = pad.size;
        pad.clear();
        return gone;
    }

    public int fault(int how) {
        if (!isWithin(how, 0, 1)) {
            return OUTSIDE;
        }
        return how == 0 ? namesFault() : ruleFault();
    }

    public int names(int sheet) {
        if (!isSheet(sheet)) {
            return UNKNOWN;
        }
        if (namesFault() != NONE) {
            return NO;
        }
        now.fillSheet(sheet, pad);
        return wipe();
    }

    public int set(int sheet, int what, int v) {
        if (!isSheet(sheet)) {
            return UNKNOWN;
        }
        if (!isWithin(what, 0, 1) || !isWithin(v, 0, what == 0 ? GATHERERS - 1 : 1)) {
            return OUTSIDE;
        }
        return what == 0 ? now.giveTo(sheet, v) : now.strikeOut(sheet, v);
    }

    public int sheet(int sheet, int i) {
        if (!isSheet(sheet)) {
            return UNKNOWN;
        }
        return i == -1 ? now.sizeOf(sheet) : now.signOf(sheet, i);
    }

    public int count(int what) {
        if (!isWithin(what, 0, 3)) {
            return OUTSIDE;
        }
        readList();
        if (what == 0) {
            return list.all;
        }
        if (what == 1) {
            return list.bad;
        }
        if (list.overfull) {
            return STATE;
        }
        return what == 2 ? list.pairs : list.good();
    }

    public int need(int v) {
        if (!isWithin(v, 0, NUMBER_MOST)) {
            return OUTSIDE;
        }
        int before = now.needed;
        now.needed = v;
        return before;
    }

    // ---- 2 lots

    public int rule() {
        if (ruleFault() != NONE) {
            return NO;
        }
        now.formula.become(pad);
        return wipe();
    }

    public long comes(int all, int k, int v, int d, int part) {
        if (!isNumber(all) || !isNumber(k) || !isNumber(v) || !isNumber(d) || !isPart(part)) {
            return LOST + OUTSIDE;
        }
        if (!reckoner.reckon(now.formula, all, k, v, d)) {
            return LOST + NO;
        }
        result.become(reckoner.upper(), reckoner.lower());
        return result.half(part);
    }

    public long yes(int k, int part) {
        int refusal = lotRefusal(k, part);
        if (refusal != GRANTED) {
            return LOST + refusal;
        }
        layList();
        result.become(waysToYes(k), lots.choose(list.all, k));
        return result.half(part);
    }

    public long bySheets(int t, int part) {
        readList();
        int filled = filledSheets();
        int howMany = Integer.bitCount(filled);
        if (!isWithin(t, 1, howMany) || !isPart(part)) {
            return LOST + OUTSIDE;
        }
        if (list.overfull) {
            return LOST + STATE;
        }
        result.become(sheetWaysToYes(filled, t), lots.choose(howMany, t));
        return result.half(part);
    }

    public long wrong(int k, int part) {
        int refusal = lotRefusal(k, part);
        if (refusal != GRANTED) {
            return LOST + refusal;
        }
        layList();
        result.become(waysToBeWrong(k), lots.choose(list.all, k));
        return result.half(part);
    }

    public int enough(int doubt) {
        if (!isWithin(doubt, 0, DOUBT_MOST)) {
            return OUTSIDE;
        }
        readList();
        if (list.overfull || list.all == 0) {
            return STATE;
        }
        layList();
        for (int k = 1; k <= list.all; k++) {
            if (waysToBeWrong(k) <= thousandths(lots.choose(list.all, k), doubt)) {
                return k;
            }
        }
        return NONE;
    }

    public long worth(int k, int v, int d, int part) {
        readList();
        if (!isWithin(k, 1, list.all) || !isNumber(v) || !isNumber(d) || !isPart(part)) {
            return LOST + OUTSIDE;
        }
        if (!reckoner.reckon(now.formula, list.all, k, v, d)) {
            return LOST + NO;
        }
        result.become(reckoner.upper(), reckoner.lower());
        if (!reckoner.reckon(now.formula, list.all, k, v, d + 1)) {
            return LOST + NO;
        }
        other.become(reckoner.upper(), reckoner.lower());
        result.lessen(other);
        return result.half(part);
    }

    // ---- 3 gatherers, clerks

    public int gatherer(int g, int what) {
        if (!isGatherer(g)) {
            return UNKNOWN;
        }
        if (!isWithin(what, 0, 1)) {
            return OUTSIDE;
        }
        some.readSheets(now, sheetsOf(g));
        return what == 0 ? some.all : some.bad;
    }

    public long seems(int g, int part) {
        if (!isGatherer(g)) {
            return LOST + UNKNOWN;
        }
        if (!isPart(part)) {
            return LOST + OUTSIDE;
        }
        readList();
        oddsByLot(g, result);
        return result.half(part);
    }

    public int suspect() {
        readList();
        int found = NONE;
        for (int g = 0; g < GATHERERS; g++) {
            if (!hasNames(g)) {
                continue;
            }
            oddsByLot(g, other);
            if (found == NONE || other.isLessThan(result)) {
                found = g;
                result.become(other.upper, other.lower);
            }
        }
        return found;
    }

    public long shared(int g, int part) {
        if (!isGatherer(g)) {
            return LOST + UNKNOWN;
        }
        if (!isPart(part)) {
            return LOST + OUTSIDE;
        }
        readList();
        oddsByLot(g, result);
        long upper = result.upper * gatherersWithNames();
        result.become(Math.min(upper, result.lower), result.lower);
        return result.half(part);
    }

    public int fine(int pay, int tenths, int saved) {
        if (!isWithin(pay, 0, CENTS_MOST) || !isWithin(tenths, 0, TENTHS) || !isWithin(saved, 0, CENTS_MOST)) {
            return OUTSIDE;
        }
        if (tenths == 0) {
            return saved == 0 ? 0 : NONE;
        }
        // At its dearest this is 9990, so the 9999 that a fine may be are never passed.
        int leastWithPay = (saved * TENTHS + tenths - 1) / tenths;
        return Math.max(0, leastWithPay - pay);
    }

    public long word(int right, int fooled, int part) {
        if (!isWithin(right, 0, TENTHS) || !isWithin(fooled, 0, TENTHS) || !isPart(part)) {
            return LOST + OUTSIDE;
        }
        readList();
        if (list.all == 0) {
            return LOST + NO;
        }
        long truly = (long) list.valid() * right;
        result.become(truly, truly + (long) list.bad * fooled);
        return result.half(part);
    }

    // ---- 4 against it

    public int strike(int sheet) {
        if (!isSheet(sheet)) {
            return UNKNOWN;
        }
        readList();
        if (list.overfull || now.isStruck(sheet)) {
            return STATE;
        }
        return lossWithout(sheet);
    }

    public int worst() {
        readList();
        if (list.overfull) {
            return STATE;
        }
        int found = NONE;
        int most = -1;
        for (int sheet = 0; sheet < SHEETS; sheet++) {
            int loss = now.isStruck(sheet) ? -1 : lossWithout(sheet);
            if (loss > most) {
                most = loss;
                found = sheet;
            }
        }
        return found;
    }

    public int against(int what, int k) {
        readList();
        if (!isWithin(what, 0, 1) || !isWithin(k, 1, list.all)) {
            return OUTSIDE;
        }
        if (list.overfull) {
            return STATE;
        }
        int most = Math.min(ADDED_MOST, LIST_ROOM - list.all);
        if (what == 1) {
            most = Math.min(most, list.dots);
        }
        for (int added = 0; added <= most; added++) {
            int doubled = what == 1 ? added : 0;
            lots.lay(list.singles() - doubled, list.bad + added - doubled, list.pairs + doubled);
            if (2 * waysToYes(k) < lots.choose(lots.all(), k)) {
                return added;
            }
        }
        return NONE;
    }

    public int heap(int seed, int k, int what) {
        readList();
        if (!isWithin(seed, 0, SEED_MOST) || !isWithin(k, 1, list.all) || !isWithin(what, 0, 2)) {
            return OUTSIDE;
        }
        if (list.overfull) {
            return STATE;
        }
        drawHeap(seed, k);
        if (what == 0) {
            return some.valid();
        }
        if (what == 1) {
            return some.pairs;
        }
        return someSaysYes() ? 1 : 0;
    }

    public int image(int n) {
        if (!isWithin(n, 0, 1)) {
            return OUTSIDE;
        }
        Register into = imageOf(n);
        into.become(now);
        into.kept = true;
        return 1;
    }

    public int restore(int n) {
        if (!isWithin(n, 0, 1)) {
            return OUTSIDE;
        }
        Register from = imageOf(n);
        if (!from.kept) {
            return STATE;
        }
        now.become(from);
        return 1;
    }

    public int told(int what) {
        if (isSheet(what - TOLD_GATHERERS)) {
            return now.gathererOf(what - TOLD_GATHERERS);
        }
        if (isSheet(what - TOLD_NAMES)) {
            return now.sizeOf(what - TOLD_NAMES);
        }
        switch (what) {
            case 0:
                return pad.size;
            case 1:
                return now.needed;
            case 2:
                return now.formula.size;
            case 3:
                return now.struck;
            default:
                return OUTSIDE;
        }
    }

    // ---- what numbers may be

    private static boolean isWithin(int x, int least, int most) {
        return x >= least && x <= most;
    }

    private static boolean isSheet(int x) {
        return isWithin(x, 0, SHEETS - 1);
    }

    private static boolean isGatherer(int x) {
        return isWithin(x, 0, GATHERERS - 1);
    }

    private static boolean isNumber(int x) {
        return isWithin(x, 0, NUMBER_MOST);
    }

    private static boolean isPart(int x) {
        return isWithin(x, 0, 1);
    }

    private static boolean isLetter(int sign) {
        return isWithin(sign, 'A', 'Z');
    }

    private static boolean isBad(int sign) {
        return sign == 's' || sign == 'm' || sign == 'u';
    }

    private static boolean isOperator(int sign) {
        return sign == '+' || sign == '-' || sign == '*' || sign == '/';
    }

    private static boolean isOperand(int sign) {
        return sign == 'N' || sign == 'k' || sign == 'v' || sign == 'd' || isWithin(sign, '0', '9');
    }

    // ---- the pad

    private int namesFault() {
        for (int i = 0; i < pad.size; i++) {
            int sign = pad.signAt(i);
            boolean isName = sign == '.' || isBad(sign) || isLetter(sign);
            if (i >= SHEET_ROOM || !isName) {
                return i;
            }
        }
        return NONE;
    }

    private int ruleFault() {
        int due = 1;
        for (int i = 0; i < pad.size; i++) {
            int sign = pad.signAt(i);
            if (i >= RULE_ROOM || due == 0) {
                return i;
            }
            if (isOperator(sign)) {
                due++;
            } else if (isOperand(sign)) {
                due--;
            } else {
                return i;
            }
        }
        return due == 0 ? NONE : pad.size;
    }

    // ---- the list and parts of it

    private void readList() {
        list.readSheets(now, EVERY_SHEET & ~now.struck);
    }

    private int filledSheets() {
        int mask = 0;
        for (int sheet = 0; sheet < SHEETS; sheet++) {
            if (!now.isStruck(sheet) && now.sizeOf(sheet) > 0) {
                mask |= 1 << sheet;
            }
        }
        return mask;
    }

    private int sheetsOf(int g) {
        int mask = 0;
        for (int sheet = 0; sheet < SHEETS; sheet++) {
            if (!now.isStruck(sheet) && now.gathererOf(sheet) == g) {
                mask |= 1 << sheet;
            }
        }
        return mask;
    }

    private int lossWithout(int sheet) {
        some.readSheets(now, EVERY_SHEET & ~now.struck & ~(1 << sheet));
        return list.good() - some.good();
    }

    private boolean hasNames(int g) {
        some.readSheets(now, sheetsOf(g));
        return some.all > 0;
    }

    private int gatherersWithNames() {
        int n = 0;
        for (int g = 0; g < GATHERERS; g++) {
            if (hasNames(g)) {
                n++;
            }
        }
        return n;
    }

    private Register imageOf(int n) {
        return n == 0 ? firstImage : secondImage;
    }

    // ---- lots

    private int lotRefusal(int k, int part) {
        readList();
        if (!isWithin(k, 1, list.all) || !isPart(part)) {
            return OUTSIDE;
        }
        return list.overfull ? STATE : GRANTED;
    }

    private void layList() {
        lots.lay(list.singles(), list.bad, list.pairs);
    }

    private long waysToYes(int k) {
        long sum = 0;
        for (int v = Math.max(0, k - lots.bad); v <= Math.min(k, lots.valid()); v++) {
            for (int d = lots.leastDoubles(v); d <= lots.pairs && 2 * d <= v; d++) {
                if (reckoner.reachesNeed(now, lots.all(), k, v, d)) {
                    sum += lots.ways(k, v, d);
                }
            }
        }
        return sum;
    }

    private long waysToBeWrong(int k) {
        long ways = waysToYes(k);
        return list.good() >= now.needed ? lots.choose(list.all, k) - ways : ways;
    }

    private int sheetWaysToYes(int filled, int t) {
        int n = 0;
        for (int mask = 1; mask <= EVERY_SHEET; mask++) {
            if ((mask & ~filled) == 0 && Integer.bitCount(mask) == t) {
                some.readSheets(now, mask);
                n += someSaysYes() ? 1 : 0;
            }
        }
        return n;
    }

    private boolean someSaysYes() {
        return reckoner.reachesNeed(now, list.all, some.all, some.valid(), some.pairs);
    }

    /** Whole and rest apart, since ways times thousandths would not fit a long. */
    private static long thousandths(long ways, int doubt) {
        return ways / DOUBT_MOST * doubt + ways % DOUBT_MOST * doubt / DOUBT_MOST;
    }

    private void oddsByLot(int g, Fraction odds) {
        some.readSheets(now, sheetsOf(g));
        long sum = 0;
        for (int bad = some.bad; bad <= some.all; bad++) {
            sum += lots.choose(list.bad, bad) * lots.choose(list.valid(), some.all - bad);
        }
        odds.become(sum, lots.choose(list.all, some.all));
    }

    // ---- heaps

    private void drawHeap(int seed, int k) {
        int n = numberList();
        int lot = seed;
        some.clear();
        for (int i = 0; i < k && n > 0; i++) {
            lot = (lot * SEED_TIMES + SEED_PLUS) % SEED_RING;
            some.add(takeOut(lot % n, n));
            n--;
        }
    }

    private int numberList() {
        int n = 0;
        for (int sheet = 0; sheet < SHEETS; sheet++) {
            int size = now.isStruck(sheet) ? 0 : now.sizeOf(sheet);
            for (int i = 0; i < size && n < left.length; i++) {
                left[n] = now.signOf(sheet, i);
                n++;
            }
        }
        return n;
    }

    private int takeOut(int place, int n) {
        if (place < 0 || place >= n || n > left.length) {
            return NONE;
        }
        int sign = left[place];
        for (int i = place; i + 1 < n; i++) {
            left[i] = left[i + 1];
        }
        return sign;
    }

    /** A row of signs that has its room from the start. */
    private static final class Text {
        private final int[] signs;
        private int size;

        Text(int room) {
            signs = new int[Math.max(0, room)];
        }

        boolean append(int sign) {
            if (size < 0 || size >= signs.length) {
                return false;
            }
            signs[size] = sign;
            size++;
            return true;
        }

        void clear() {
            size = 0;
        }

        int signAt(int i) {
            return i >= 0 && i < size && i < signs.length ? signs[i] : NONE;
        }

        void become(Text from) {
            clear();
            for (int i = 0; i < from.size; i++) {
                append(from.signAt(i));
            }
        }
    }

    /** All that an image keeps: everything but the pad. */
    private static final class Register {
        private final int[] signs;
        private final int[] sizes;
        private final int[] gatherers;
        private final Text formula;
        private int struck;
        private int needed;
        private boolean kept;

        Register() {
            signs = new int[SHEETS * SHEET_ROOM];
            sizes = new int[SHEETS];
            gatherers = new int[SHEETS];
            formula = new Text(RULE_ROOM);
            needed = FIRST_NEED;
            for (int i = 0; i < FIRST_RULE.length(); i++) {
                formula.append(FIRST_RULE.charAt(i));
            }
        }

        void become(Register from) {
            copy(from.signs, signs);
            copy(from.sizes, sizes);
            copy(from.gatherers, gatherers);
            formula.become(from.formula);
            struck = from.struck;
            needed = from.needed;
        }

        private static void copy(int[] from, int[] into) {
            System.arraycopy(from, 0, into, 0, Math.min(from.length, into.length));
        }

        int sizeOf(int sheet) {
            return sheet >= 0 && sheet < sizes.length ? sizes[sheet] : 0;
        }

        int signOf(int sheet, int i) {
            if (i < 0 || i >= sizeOf(sheet)) {
                return NONE;
            }
            int place = sheet * SHEET_ROOM + i;
            return place >= 0 && place < signs.length ? signs[place] : NONE;
        }

        void fillSheet(int sheet, Text text) {
            if (sheet < 0 || sheet >= sizes.length || text.size > SHEET_ROOM) {
                return;
            }
            for (int i = 0; i < text.size; i++) {
                int place = sheet * SHEET_ROOM + i;
                if (place < signs.length) {
                    signs[place] = text.signAt(i);
                }
            }
            sizes[sheet] = text.size;
        }

        int gathererOf(int sheet) {
            return sheet >= 0 && sheet < gatherers.length ? gatherers[sheet] : NONE;
        }

        int giveTo(int sheet, int g) {
            int before = gathererOf(sheet);
            if (sheet >= 0 && sheet < gatherers.length) {
                gatherers[sheet] = g;
            }
            return before;
        }

        boolean isStruck(int sheet) {
            return (struck >> sheet & 1) != 0;
        }

        int strikeOut(int sheet, int v) {
            int before = struck >> sheet & 1;
            struck = struck & ~(1 << sheet) | v << sheet;
            return before;
        }
    }

    /** What stands on some sheets, or in a heap, counted name by name. */
    private static final class Tally {
        private final int[] seen;
        private int all;
        private int bad;
        private int dots;
        private int once;
        private int pairs;
        private boolean overfull;

        Tally() {
            seen = new int[LETTERS];
        }

        void clear() {
            for (int i = 0; i < seen.length; i++) {
                seen[i] = 0;
            }
            all = 0;
            bad = 0;
            dots = 0;
            once = 0;
            pairs = 0;
            overfull = false;
        }

        void readSheets(Register register, int mask) {
            clear();
            for (int sheet = 0; sheet < SHEETS; sheet++) {
                int size = (mask >> sheet & 1) != 0 ? register.sizeOf(sheet) : 0;
                for (int i = 0; i < size; i++) {
                    add(register.signOf(sheet, i));
                }
            }
        }

        void add(int sign) {
            all++;
            if (sign == '.') {
                dots++;
            } else if (isBad(sign)) {
                bad++;
            } else {
                addPerson(sign - 'A');
            }
        }

        private void addPerson(int person) {
            if (person < 0 || person >= seen.length) {
                return;
            }
            seen[person]++;
            if (seen[person] == 1) {
                once++;
            } else if (seen[person] == 2) {
                once--;
                pairs++;
            } else {
                overfull = true;
            }
        }

        int valid() {
            return all - bad;
        }

        int singles() {
            return dots + once;
        }

        int good() {
            return dots + once + pairs;
        }
    }

    /** In how many ways a lot falls out; all of them fit a long, as 60 over 30 does. */
    private static final class Lots {
        private static final int ROW = LIST_ROOM + 1;
        private final long[] pascal;
        // At d * ROW + r: r valid names, none of them doubled, when d of the pairs are taken whole.
        private final long[] undoubled;
        private int singles;
        private int bad;
        private int pairs;

        Lots() {
            pascal = new long[ROW * (ROW + 1) / 2];
            undoubled = new long[(PAIRS_ROOM + 1) * ROW];
            for (int n = 0; n < ROW; n++) {
                for (int k = 0; k <= n; k++) {
                    int place = n * (n + 1) / 2 + k;
                    if (place < pascal.length) {
                        pascal[place] = k == 0 ? 1 : choose(n - 1, k - 1) + choose(n - 1, k);
                    }
                }
            }
        }

        long choose(int n, int k) {
            if (n < 0 || n > LIST_ROOM || k < 0 || k > n) {
                return 0;
            }
            int place = n * (n + 1) / 2 + k;
            return place < pascal.length ? pascal[place] : 0;
        }

        void lay(int singleOnes, int badOnes, int pairsThere) {
            singles = singleOnes;
            bad = badOnes;
            pairs = Math.min(pairsThere, PAIRS_ROOM);
            for (int r = 0; r <= singles; r++) {
                write(pairs, r, choose(singles, r));
            }
            // One pair more that is not taken whole: none of it, or one of its two names.
            for (int d = pairs - 1; d >= 0; d--) {
                for (int r = 0; r <= people(d); r++) {
                    write(d, r, read(d + 1, r) + 2 * read(d + 1, r - 1));
                }
            }
        }

        int valid() {
            return singles + 2 * pairs;
        }

        int all() {
            return valid() + bad;
        }

        /** With more valid names than people, some are doubled. */
        int leastDoubles(int v) {
            return Math.max(0, v - people(0));
        }

        long ways(int k, int v, int d) {
            return choose(pairs, d) * read(d, v - 2 * d) * choose(bad, k - v);
        }

        /** Those who can be there with one name, when d of the pairs are taken whole. */
        private int people(int d) {
            return singles + pairs - d;
        }

        private long read(int d, int r) {
            int place = d * ROW + r;
            return r >= 0 && r <= people(d) && place >= 0 && place < undoubled.length ? undoubled[place] : 0;
        }

        private void write(int d, int r, long value) {
            int place = d * ROW + r;
            if (place >= 0 && place < undoubled.length) {
                undoubled[place] = value;
            }
        }
    }

    /** A fraction in lowest terms, its lower number above 0. */
    private static final class Fraction {
        private long upper;
        private long lower;

        Fraction() {
            lower = 1;
        }

        /** Over 0 there is only what never comes about: told as 0 by 1. */
        void become(long over, long under) {
            long divisor = commonDivisor(over, under);
            if (under <= 0 || divisor <= 0) {
                upper = 0;
                lower = 1;
                return;
            }
            upper = over / divisor;
            lower = under / divisor;
        }

        long half(int part) {
            return part == 0 ? upper : lower;
        }

        void lessen(Fraction by) {
            become(upper * by.lower - by.upper * lower, lower * by.lower);
        }

        /** Digit by digit of their continued fractions, since cross products would not fit a long. */
        boolean isLessThan(Fraction than) {
            long a = upper;
            long b = lower;
            long c = than.upper;
            long d = than.lower;
            boolean turned = false;
            for (int step = 0; step < EUCLID_MOST && b > 0 && d > 0; step++) {
                long mine = a / b;
                long his = c / d;
                if (mine != his) {
                    return (mine < his) != turned;
                }
                long rest = a % b;
                long hisRest = c % d;
                a = b;
                b = rest;
                c = d;
                d = hisRest;
                turned = !turned;
            }
            // A rest of 0 stands for an endless digit.
            return b != d && (d == 0) != turned;
        }

        private static long commonDivisor(long x, long y) {
            long a = Math.abs(x);
            long b = Math.abs(y);
            for (int step = 0; step < EUCLID_MOST && b != 0; step++) {
                long rest = a % b;
                a = b;
                b = rest;
            }
            return a;
        }
    }

    /** Works out a rule from its last sign to its first; six numbers of 61 at most stay far below a long's end. */
    private static final class Reckoner {
        private final long[] uppers;
        private final long[] lowers;
        private int depth;

        Reckoner() {
            uppers = new long[RULE_ROOM];
            lowers = new long[RULE_ROOM];
        }

        /** False: it comes to nothing. */
        boolean reckon(Text formula, int all, int k, int v, int d) {
            depth = 0;
            for (int i = formula.size - 1; i >= 0; i--) {
                int sign = formula.signAt(i);
                boolean stands = isOperator(sign) ? combine(sign) : push(valueOf(sign, all, k, v, d));
                if (!stands) {
                    return false;
                }
            }
            return depth == 1;
        }

        boolean reachesNeed(Register register, int all, int k, int v, int d) {
            return reckon(register.formula, all, k, v, d) && upper() >= register.needed * lower();
        }

        long upper() {
            return uppers.length > 0 ? uppers[0] : 0;
        }

        long lower() {
            return lowers.length > 0 ? lowers[0] : 1;
        }

        private static int valueOf(int sign, int all, int k, int v, int d) {
            switch (sign) {
                case 'N':
                    return all;
                case 'k':
                    return k;
                case 'v':
                    return v;
                case 'd':
                    return d;
                default:
                    return sign - '0';
            }
        }

        private boolean push(int value) {
            depth++;
            return put(depth - 1, value, 1);
        }

        private boolean combine(int sign) {
            int first = depth - 1;
            int second = depth - 2;
            if (second < 0 || first >= uppers.length || first >= lowers.length) {
                return false;
            }
            long a = uppers[first];
            long b = lowers[first];
            long c = uppers[second];
            long d = lowers[second];
            depth = first;
            switch (sign) {
                case '+':
                    return put(second, a * d + c * b, b * d);
                case '-':
                    return put(second, a * d - c * b, b * d);
                case '*':
                    return put(second, a * c, b * d);
                default:
                    // The lower number must stay above 0, so a sign goes up.
                    return c != 0 && put(second, c < 0 ? -a * d : a * d, b * Math.abs(c));
            }
        }

        private boolean put(int place, long over, long under) {
            if (place < 0 || place >= uppers.length || place >= lowers.length) {
                return false;
            }
            uppers[place] = over;
            lowers[place] = under;
            return true;
        }
    }
}
