import java.math.BigInteger;
import java.util.ArrayList;
import java.util.HashMap;
import java.util.List;
import java.util.Map;
import java.util.Random;

/** Long runs of calls, each answer held against a second program that counts name by name. */
public final class ModelTest {
    private static final int NONE = -6, UNKNOWN = -1, OUTSIDE = -2, STATE = -3, FULL = -4, NO = -5;
    private static final long LOST = -1000000000000000000L;
    private static final int RUNS = 400, CALLS = 512, CALL_KINDS = 28;
    private static int bad;

    public static void main(String[] args) {
        checkTheCounting();
        for (int run = 0; run < RUNS && bad < 20; run++) {
            new Run(run).go();
        }
        System.out.println(bad == 0 ? "the class answers as the model" : bad + " answers differ from the model's");
        if (bad != 0) {
            System.exit(1);
        }
    }

    /** The model's own counting of lots, against every choice looked at one by one. */
    private static void checkTheCounting() {
        String[] lists = {"", "A", "AA", "A.sBA", "ABABCs..mC", "....ssss", "AABBCCDDEEFF", "sssss"};
        for (String list : lists) {
            int badOnes = Model.badOnes(list);
            int pairs = Model.people(list, 2);
            Map<Kvd, BigInteger> counted = Model.lots(list.length() - badOnes - 2 * pairs, badOnes, pairs);
            Map<Kvd, BigInteger> seen = new HashMap<>();
            for (int choice = 0; choice < 1 << list.length(); choice++) {
                StringBuilder taken = new StringBuilder();
                for (int i = 0; i < list.length(); i++) {
                    if ((choice >> i & 1) != 0) {
                        taken.append(list.charAt(i));
                    }
                }
                seen.merge(Model.look(taken.toString()), BigInteger.ONE, BigInteger::add);
            }
            if (!counted.equals(seen)) {
                bad++;
                System.out.println("the model's counting fails on " + list);
            }
        }
    }

    /** A fraction; null stands for nothing. */
    private record Q(BigInteger over, BigInteger under) {
        static Q of(BigInteger over, BigInteger under) {
            BigInteger g = over.gcd(under);
            if (under.signum() < 0) {
                g = g.negate();
            }
            return new Q(over.divide(g), under.divide(g));
        }

        static Q of(long x) {
            return new Q(BigInteger.valueOf(x), BigInteger.ONE);
        }

        Q plus(Q q) {
            return of(over.multiply(q.under).add(q.over.multiply(under)), under.multiply(q.under));
        }

        Q less(Q q) {
            return plus(new Q(q.over.negate(), q.under));
        }

        Q times(Q q) {
            return of(over.multiply(q.over), under.multiply(q.under));
        }

        Q by(Q q) {
            return q.over.signum() == 0 ? null : of(over.multiply(q.under), under.multiply(q.over));
        }

        int compare(Q q) {
            return over.multiply(q.under).compareTo(q.over.multiply(under));
        }
    }

    /** What a lot is to the rule. */
    private record Kvd(int k, int v, int d) {
    }

    private static final class Kept {
        final String[] sheets = {"", "", "", "", "", ""};
        final int[] gatherers = new int[6];
        final boolean[] struck = new boolean[6];
        int need = 30;
        String rule = "-/*Nvk/*dNk";

        Kept copy() {
            Kept k = new Kept();
            for (int i = 0; i < 6; i++) {
                k.sheets[i] = sheets[i];
                k.gatherers[i] = gatherers[i];
                k.struck[i] = struck[i];
            }
            k.need = need;
            k.rule = rule;
            return k;
        }
    }

    private static final class Model {
        private static final Map<String, Map<Kvd, BigInteger>> KNOWN = new HashMap<>();
        String pad = "";
        Kept now = new Kept();
        final Kept[] images = new Kept[2];

        // ---- reading texts

        static int times(String text, char sign) {
            int n = 0;
            for (char c : text.toCharArray()) {
                n += c == sign ? 1 : 0;
            }
            return n;
        }

        static int badOnes(String text) {
            return times(text, 's') + times(text, 'm') + times(text, 'u');
        }

        static int people(String text, int often) {
            int n = 0;
            for (char c = 'A'; c <= 'Z'; c++) {
                n += times(text, c) == often ? 1 : 0;
            }
            return n;
        }

        static boolean overfull(String text) {
            for (char c = 'A'; c <= 'Z'; c++) {
                if (times(text, c) > 2) {
                    return true;
                }
            }
            return false;
        }

        static int good(String text) {
            int n = times(text, '.');
            for (char c = 'A'; c <= 'Z'; c++) {
                n += text.indexOf(c) >= 0 ? 1 : 0;
            }
            return n;
        }

        /** k, v, d of what was taken. */
        static Kvd look(String taken) {
            return new Kvd(taken.length(), taken.length() - badOnes(taken), people(taken, 2));
        }

        /** How many choices there are for each k, v, d. */
        static Map<Kvd, BigInteger> lots(int singles, int bad, int pairs) {
            String key = singles + " " + bad + " " + pairs;
            if (!KNOWN.containsKey(key)) {
                KNOWN.put(key, countLots(singles, bad, pairs));
            }
            return KNOWN.get(key);
        }

        /** Name after name is left or taken. */
        private static Map<Kvd, BigInteger> countLots(int singles, int bad, int pairs) {
            int most = singles + bad + 2 * pairs;
            BigInteger[][][] ways = new BigInteger[most + 1][most + 1][pairs + 1];
            ways[0][0][0] = BigInteger.ONE;
            for (int i = 0; i < singles; i++) {
                ways = step(ways, new int[][] {{0, 0, 0, 1}, {1, 1, 0, 1}});
            }
            for (int i = 0; i < bad; i++) {
                ways = step(ways, new int[][] {{0, 0, 0, 1}, {1, 0, 0, 1}});
            }
            for (int i = 0; i < pairs; i++) {
                ways = step(ways, new int[][] {{0, 0, 0, 1}, {1, 1, 0, 2}, {2, 2, 1, 1}});
            }
            Map<Kvd, BigInteger> found = new HashMap<>();
            for (int k = 0; k <= most; k++) {
                for (int v = 0; v <= most; v++) {
                    for (int d = 0; d <= pairs; d++) {
                        if (ways[k][v][d] != null) {
                            found.put(new Kvd(k, v, d), ways[k][v][d]);
                        }
                    }
                }
            }
            return found;
        }

        private static BigInteger[][][] step(BigInteger[][][] ways, int[][] moves) {
            BigInteger[][][] next = new BigInteger[ways.length][ways[0].length][ways[0][0].length];
            for (int k = 0; k < ways.length; k++) {
                for (int v = 0; v < ways[0].length; v++) {
                    for (int d = 0; d < ways[0][0].length; d++) {
                        if (ways[k][v][d] == null) {
                            continue;
                        }
                        for (int[] m : moves) {
                            BigInteger more = ways[k][v][d].multiply(BigInteger.valueOf(m[3]));
                            BigInteger had = next[k + m[0]][v + m[1]][d + m[2]];
                            next[k + m[0]][v + m[1]][d + m[2]] = had == null ? more : had.add(more);
                        }
                    }
                }
            }
            return next;
        }

        static BigInteger choose(int n, int k) {
            if (k < 0 || k > n) {
                return BigInteger.ZERO;
            }
            BigInteger c = BigInteger.ONE;
            for (int i = 0; i < k; i++) {
                c = c.multiply(BigInteger.valueOf(n - i)).divide(BigInteger.valueOf(i + 1));
            }
            return c;
        }

        // ---- the rule

        private int at;

        Q value(String rule, int all, int k, int v, int d) {
            at = 0;
            return part(rule, new int[] {all, k, v, d});
        }

        private Q part(String rule, int[] nkvd) {
            char c = rule.charAt(at++);
            int letter = "Nkvd".indexOf(c);
            if (letter >= 0) {
                return Q.of(nkvd[letter]);
            }
            if (c >= '0' && c <= '9') {
                return Q.of(c - '0');
            }
            Q first = part(rule, nkvd);
            Q second = part(rule, nkvd);
            if (first == null || second == null) {
                return null;
            }
            return c == '+' ? first.plus(second) : c == '-' ? first.less(second)
                : c == '*' ? first.times(second) : first.by(second);
        }

        boolean saysYes(int all, int k, int v, int d) {
            Q q = value(now.rule, all, k, v, d);
            return q != null && q.compare(Q.of(now.need)) >= 0;
        }

        int ruleFault() {
            for (int i = 0; i < pad.length(); i++) {
                if (i == 11 || whole(pad.substring(0, i)) || "Nkvd0123456789+-*/".indexOf(pad.charAt(i)) < 0) {
                    return i;
                }
            }
            return whole(pad) ? NONE : pad.length();
        }

        private static boolean whole(String text) {
            int operators = 0;
            for (int i = 0; i < text.length(); i++) {
                operators += "+-*/".indexOf(text.charAt(i)) >= 0 ? 1 : 0;
            }
            return text.length() - operators == operators + 1;
        }

        int namesFault() {
            for (int i = 0; i < pad.length(); i++) {
                if (i == 10 || ".smuABCDEFGHIJKLMNOPQRSTUVWXYZ".indexOf(pad.charAt(i)) < 0) {
                    return i;
                }
            }
            return NONE;
        }

        // ---- the list

        String list() {
            return listWithout(-1);
        }

        String listWithout(int sheet) {
            StringBuilder text = new StringBuilder();
            for (int i = 0; i < 6; i++) {
                text.append(now.struck[i] || i == sheet ? "" : now.sheets[i]);
            }
            return text.toString();
        }

        String ofGatherer(int g) {
            StringBuilder text = new StringBuilder();
            for (int i = 0; i < 6; i++) {
                text.append(now.struck[i] || now.gatherers[i] != g ? "" : now.sheets[i]);
            }
            return text.toString();
        }

        Q yesOdds(String list, int k) {
            int bad = badOnes(list);
            int pairs = people(list, 2);
            return yesOdds(list.length() - bad - 2 * pairs, bad, pairs, k);
        }

        Q yesOdds(int singles, int bad, int pairs, int k) {
            int all = singles + bad + 2 * pairs;
            BigInteger sum = BigInteger.ZERO;
            for (Map.Entry<Kvd, BigInteger> e : lots(singles, bad, pairs).entrySet()) {
                Kvd lot = e.getKey();
                if (lot.k == k && saysYes(all, k, lot.v, lot.d)) {
                    sum = sum.add(e.getValue());
                }
            }
            return Q.of(sum, choose(all, k));
        }

        Q wrongOdds(int k) {
            Q yes = yesOdds(list(), k);
            return good(list()) >= now.need ? Q.of(1).less(yes) : yes;
        }

        Q seemsOdds(int g) {
            String his = ofGatherer(g);
            String all = list();
            BigInteger sum = BigInteger.ZERO;
            for (int b = badOnes(his); b <= his.length(); b++) {
                sum = sum.add(choose(badOnes(all), b).multiply(choose(all.length() - badOnes(all), his.length() - b)));
            }
            return Q.of(sum, choose(all.length(), his.length()));
        }

        // ---- the calls

        private static long told(Q q, int part) {
            return (part == 0 ? q.over : q.under).longValueExact();
        }

        private static boolean in(int x, int least, int most) {
            return least <= x && x <= most;
        }

        long answer(int kind, int[] a) {
            return kind < 9 ? sheetCall(kind, a) : kind < 16 ? lotCall(kind, a)
                : kind < 22 ? gathererCall(kind, a) : againstCall(kind, a);
        }

        private long sheetCall(int kind, int[] a) {
            boolean known = in(a[0], 0, 5);
            switch (kind) {
                case 0:
                    if (!in(a[0], 33, 126)) {
                        return OUTSIDE;
                    }
                    if (pad.length() == 16) {
                        return FULL;
                    }
                    pad += (char) a[0];
                    return pad.length();
                case 1:
                    int gone = pad.length();
                    pad = "";
                    return gone;
                case 2:
                    return a[0] == 0 ? namesFault() : a[0] == 1 ? ruleFault() : OUTSIDE;
                case 3:
                    if (!known || namesFault() != NONE) {
                        return known ? NO : UNKNOWN;
                    }
                    now.sheets[a[0]] = pad;
                    pad = "";
                    return now.sheets[a[0]].length();
                case 4:
                    return known ? setCall(a) : UNKNOWN;
                case 5:
                    if (!known) {
                        return UNKNOWN;
                    }
                    String text = now.sheets[a[0]];
                    return a[1] == -1 ? text.length() : in(a[1], 0, text.length() - 1) ? text.charAt(a[1]) : NONE;
                case 6:
                    String all = list();
                    if (!in(a[0], 0, 3) || a[0] > 1 && overfull(all)) {
                        return in(a[0], 0, 3) ? STATE : OUTSIDE;
                    }
                    return new int[] {all.length(), badOnes(all), people(all, 2), good(all)}[a[0]];
                case 7:
                    int before = now.need;
                    now.need = in(a[0], 0, 60) ? a[0] : before;
                    return in(a[0], 0, 60) ? before : OUTSIDE;
                default:
                    if (ruleFault() != NONE) {
                        return NO;
                    }
                    now.rule = pad;
                    pad = "";
                    return now.rule.length();
            }
        }

        private long setCall(int[] a) {
            if (a[1] == 0 && in(a[2], 0, 4)) {
                int before = now.gatherers[a[0]];
                now.gatherers[a[0]] = a[2];
                return before;
            }
            if (a[1] == 1 && in(a[2], 0, 1)) {
                boolean before = now.struck[a[0]];
                now.struck[a[0]] = a[2] == 1;
                return before ? 1 : 0;
            }
            return OUTSIDE;
        }

        private long lotCall(int kind, int[] a) {
            String all = list();
            boolean some = in(a[0], 1, all.length());
            switch (kind) {
                case 9:
                    if (!in(a[0], 0, 60) || !in(a[1], 0, 60) || !in(a[2], 0, 60) || !in(a[3], 0, 60)
                        || !in(a[4], 0, 1)) {
                        return LOST + OUTSIDE;
                    }
                    Q comes = value(now.rule, a[0], a[1], a[2], a[3]);
                    return comes == null ? LOST + NO : told(comes, a[4]);
                case 10:
                case 12:
                    if (!some || !in(a[1], 0, 1)) {
                        return LOST + OUTSIDE;
                    }
                    return overfull(all) ? LOST + STATE : told(kind == 10 ? yesOdds(all, a[0]) : wrongOdds(a[0]), a[1]);
                case 11:
                    return bySheetsCall(all, a);
                case 13:
                    return enoughCall(all, a[0]);
                default:
                    if (!some || !in(a[1], 0, 60) || !in(a[2], 0, 60) || !in(a[3], 0, 1)) {
                        return LOST + OUTSIDE;
                    }
                    Q without = value(now.rule, all.length(), a[0], a[1], a[2]);
                    Q with = value(now.rule, all.length(), a[0], a[1], a[2] + 1);
                    return without == null || with == null ? LOST + NO : told(without.less(with), a[3]);
            }
        }

        private long bySheetsCall(String all, int[] a) {
            List<String> sheets = new ArrayList<>();
            for (int i = 0; i < 6; i++) {
                if (!now.struck[i] && !now.sheets[i].isEmpty()) {
                    sheets.add(now.sheets[i]);
                }
            }
            if (!in(a[0], 1, sheets.size()) || !in(a[1], 0, 1)) {
                return LOST + OUTSIDE;
            }
            if (overfull(all)) {
                return LOST + STATE;
            }
            long yes = 0;
            long ways = 0;
            for (int choice = 0; choice < 1 << sheets.size(); choice++) {
                StringBuilder taken = new StringBuilder();
                for (int i = 0; i < sheets.size(); i++) {
                    taken.append((choice >> i & 1) != 0 ? sheets.get(i) : "");
                }
                Kvd lot = look(taken.toString());
                if (Integer.bitCount(choice) == a[0]) {
                    ways++;
                    yes += saysYes(all.length(), lot.k, lot.v, lot.d) ? 1 : 0;
                }
            }
            return told(Q.of(BigInteger.valueOf(yes), BigInteger.valueOf(ways)), a[1]);
        }

        private long enoughCall(String all, int doubt) {
            if (!in(doubt, 0, 1000)) {
                return OUTSIDE;
            }
            if (all.isEmpty() || overfull(all)) {
                return STATE;
            }
            for (int k = 1; k <= all.length(); k++) {
                if (wrongOdds(k).compare(Q.of(BigInteger.valueOf(doubt), BigInteger.valueOf(1000))) <= 0) {
                    return k;
                }
            }
            return NONE;
        }

        private long gathererCall(int kind, int[] a) {
            boolean known = in(a[0], 0, 4);
            String all = list();
            switch (kind) {
                case 16:
                    if (!known || !in(a[1], 0, 1)) {
                        return known ? OUTSIDE : UNKNOWN;
                    }
                    return a[1] == 0 ? ofGatherer(a[0]).length() : badOnes(ofGatherer(a[0]));
                case 17:
                case 19:
                    if (!known || !in(a[1], 0, 1)) {
                        return LOST + (known ? OUTSIDE : UNKNOWN);
                    }
                    return told(kind == 17 ? seemsOdds(a[0]) : sharedOdds(a[0]), a[1]);
                case 18:
                    int found = NONE;
                    for (int g = 4; g >= 0; g--) {
                        if (!ofGatherer(g).isEmpty()
                            && (found == NONE || seemsOdds(g).compare(seemsOdds(found)) <= 0)) {
                            found = g;
                        }
                    }
                    return found;
                case 20:
                    return fineCall(a);
                default:
                    if (!in(a[0], 0, 10) || !in(a[1], 0, 10) || !in(a[2], 0, 1)) {
                        return LOST + OUTSIDE;
                    }
                    if (all.isEmpty()) {
                        return LOST + NO;
                    }
                    int truly = (all.length() - badOnes(all)) * a[0];
                    int falsely = badOnes(all) * a[1];
                    return told(truly + falsely == 0 ? Q.of(0)
                        : Q.of(BigInteger.valueOf(truly), BigInteger.valueOf(truly + falsely)), a[2]);
            }
        }

        private Q sharedOdds(int g) {
            int n = 0;
            for (int other = 0; other < 5; other++) {
                n += ofGatherer(other).isEmpty() ? 0 : 1;
            }
            Q times = seemsOdds(g).times(Q.of(n));
            return times.compare(Q.of(1)) > 0 ? Q.of(1) : times;
        }

        private static long fineCall(int[] a) {
            if (!in(a[0], 0, 999) || !in(a[1], 0, 10) || !in(a[2], 0, 999)) {
                return OUTSIDE;
            }
            for (int fine = 0; fine <= 9999; fine++) {
                if (10 * a[2] <= a[1] * (fine + a[0])) {
                    return fine;
                }
            }
            return NONE;
        }

        private long againstCall(int kind, int[] a) {
            String all = list();
            switch (kind) {
                case 22:
                    if (!in(a[0], 0, 5)) {
                        return UNKNOWN;
                    }
                    return overfull(all) || now.struck[a[0]] ? STATE : good(all) - good(listWithout(a[0]));
                case 23:
                    int found = NONE;
                    for (int i = 5; i >= 0; i--) {
                        if (!now.struck[i] && (found == NONE || good(listWithout(i)) <= good(listWithout(found)))) {
                            found = i;
                        }
                    }
                    return overfull(all) ? STATE : found;
                case 24:
                    return turnCall(all, a);
                case 25:
                    return heapCall(all, a);
                case 26:
                    if (!in(a[0], 0, 1)) {
                        return OUTSIDE;
                    }
                    images[a[0]] = now.copy();
                    return 1;
                default:
                    if (!in(a[0], 0, 1)) {
                        return OUTSIDE;
                    }
                    if (images[a[0]] == null) {
                        return STATE;
                    }
                    now = images[a[0]].copy();
                    return 1;
            }
        }

        private long turnCall(String all, int[] a) {
            if (!in(a[0], 0, 1) || !in(a[1], 1, all.length())) {
                return OUTSIDE;
            }
            if (overfull(all)) {
                return STATE;
            }
            int pairs = people(all, 2);
            int singles = all.length() - badOnes(all) - 2 * pairs;
            int most = Math.min(60 - all.length(), a[0] == 0 ? 30 : Math.min(30, times(all, '.')));
            for (int n = 0; n <= most; n++) {
                Q odds = a[0] == 0 ? yesOdds(singles, badOnes(all) + n, pairs, a[1])
                    : yesOdds(singles - n, badOnes(all), pairs + n, a[1]);
                if (odds.compare(Q.of(BigInteger.ONE, BigInteger.TWO)) < 0) {
                    return n;
                }
            }
            return NONE;
        }

        private long heapCall(String all, int[] a) {
            if (!in(a[0], 0, 9999) || !in(a[1], 1, all.length()) || !in(a[2], 0, 2)) {
                return OUTSIDE;
            }
            if (overfull(all)) {
                return STATE;
            }
            StringBuilder left = new StringBuilder(all);
            StringBuilder taken = new StringBuilder();
            long seed = a[0];
            for (int i = 0; i < a[1]; i++) {
                seed = (seed * 75 + 74) % 65537;
                int place = (int) (seed % left.length());
                taken.append(left.charAt(place));
                left.deleteCharAt(place);
            }
            Kvd lot = look(taken.toString());
            return a[2] == 0 ? lot.v : a[2] == 1 ? lot.d : saysYes(all.length(), lot.k, lot.v, lot.d) ? 1 : 0;
        }
    }

    /** One run: calls drawn by a seed, most of them fit to be answered. */
    private static final class Run {
        private static final String[] NAMES = {"say", "wipe", "fault", "names", "set", "sheet", "count", "need", "rule",
            "comes", "yes", "bySheets", "wrong", "enough", "worth", "-", "gatherer", "seems", "suspect", "shared",
            "fine", "word", "strike", "worst", "against", "heap", "image", "restore"};
        private final int number;
        private final Random random;
        private final NamesByLot x = new NamesByLot();
        private final Model model = new Model();
        private final int mostNames;
        private final String signs;
        private int calls;

        Run(int number) {
            this.number = number;
            random = new Random(20261119L + number);
            mostNames = new int[] {2, 4, 7, 10}[number % 4];
            signs = new String[] {"....ssmuABCDEF", "..ABCDEFGHIJKLMNOPQRSTUVWXYZsu", ".sm", "ABCDEFGHIJKLMs"}[number / 4 % 4];
        }

        void go() {
            while (calls < CALLS && bad < 20) {
                int choice = random.nextInt(100);
                if (choice < 12 || calls < 40) {
                    layNames();
                } else if (choice < 18) {
                    layRule();
                } else if (choice < 20) {
                    strayText();
                } else {
                    anyCall();
                }
                if (random.nextInt(10) == 0) {
                    compareState();
                }
            }
        }

        private void layNames() {
            call(1);
            int n = random.nextInt(mostNames + 1);
            for (int i = 0; i < n; i++) {
                call(0, signs.charAt(random.nextInt(signs.length())));
            }
            int sheet = random.nextInt(6);
            call(3, sheet);
            if (model.now.struck[sheet] && random.nextBoolean()) {
                call(4, sheet, 1, 0);
            }
            call(4, sheet, 0, random.nextInt(5));
            // A list that stays overfull would hide most calls.
            if (Model.overfull(model.list()) && random.nextInt(4) > 0) {
                call(4, sheet, 1, 1);
            }
            int most = Model.good(model.list());
            call(7, Math.max(0, Math.min(60, most + random.nextInt(5) - 2)));
        }

        private void layRule() {
            call(1);
            String[] usual = {"-/*Nvk/*dNk", "/*Nvk", "v", "-vd", "/*N-vdk", "-/*Nvk*dd"};
            String text = random.nextBoolean() ? usual[random.nextInt(usual.length)] : anyRule(random.nextInt(6));
            for (int i = 0; i < text.length(); i++) {
                call(0, text.charAt(i));
            }
            call(2, 1);
            call(8);
        }

        private String anyRule(int operators) {
            if (operators == 0) {
                return String.valueOf("NNkkvvvdd0123456789".charAt(random.nextInt(19)));
            }
            int left = random.nextInt(operators);
            return "+-*/".charAt(random.nextInt(4)) + anyRule(left) + anyRule(operators - 1 - left);
        }

        private void strayText() {
            int n = random.nextInt(18);
            String from = random.nextBoolean() ? "Nkvd01+-*/.sA" : ".AsB9";
            for (int i = 0; i < n; i++) {
                call(0, random.nextInt(12) == 0 ? random.nextInt(140) : from.charAt(random.nextInt(from.length())));
            }
            call(2, 0);
            call(2, 1);
            call(random.nextBoolean() ? 8 : 3, random.nextInt(6));
        }

        private void anyCall() {
            int all = model.list().length();
            int k = 1 + random.nextInt(Math.max(1, all));
            int part = random.nextInt(2);
            int kind = random.nextInt(CALL_KINDS);
            int[] a = fit(kind, all, k, part);
            if (random.nextInt(8) == 0 && a.length > 0) {
                int[] wild = {-1, -2, 0, 1, 2, 3, 4, 5, 6, 10, 11, 60, 61, 999, 1000, 1001, 9999, 10000, all, all + 1,
                    Integer.MIN_VALUE, Integer.MAX_VALUE, -Integer.MAX_VALUE};
                a[random.nextInt(a.length)] = wild[random.nextInt(wild.length)];
            }
            call(kind, a);
        }

        private int[] fit(int kind, int all, int k, int part) {
            switch (kind) {
                case 0:
                    return new int[] {33 + random.nextInt(94)};
                case 2:
                case 26:
                case 27:
                    return new int[] {part};
                case 3:
                case 22:
                    return new int[] {random.nextInt(6)};
                case 4:
                    return new int[] {random.nextInt(6), part, part == 0 ? random.nextInt(5) : random.nextInt(2)};
                case 5:
                    return new int[] {random.nextInt(6), random.nextInt(12) - 1};
                case 6:
                    return new int[] {random.nextInt(4)};
                case 7:
                    return new int[] {random.nextInt(61)};
                case 9:
                    return new int[] {random.nextInt(61), random.nextInt(61), random.nextInt(61), random.nextInt(61), part};
                case 10:
                case 12:
                    return new int[] {k, part};
                case 11:
                    return new int[] {1 + random.nextInt(6), part};
                case 13:
                    return new int[] {random.nextInt(1001)};
                case 14:
                    return new int[] {k, random.nextInt(61), random.nextInt(61), part};
                case 16:
                case 17:
                case 19:
                    return new int[] {random.nextInt(5), part};
                case 20:
                    return new int[] {random.nextInt(1000), random.nextInt(11), random.nextInt(1000)};
                case 21:
                    return new int[] {random.nextInt(11), random.nextInt(11), part};
                case 24:
                    return new int[] {part, k};
                case 25:
                    return new int[] {random.nextInt(10000), k, random.nextInt(3)};
                default:
                    return new int[0];
            }
        }

        private void call(int kind, int... a) {
            if (calls >= CALLS || kind == 15) {
                return;
            }
            calls++;
            due(kind, a, ask(kind, a), model.answer(kind, a.length == 0 ? new int[1] : a));
            // A fraction's other number, too.
            if (kind >= 9 && kind < 22 && a.length > 1 && calls < CALLS && (a[a.length - 1] == 0 || a[a.length - 1] == 1)) {
                int[] half = a.clone();
                half[half.length - 1] = 1 - half[half.length - 1];
                calls++;
                due(kind, half, ask(kind, half), model.answer(kind, half));
            }
        }

        private void due(int kind, int[] a, long got, long want) {
            if (got != want) {
                bad++;
                System.out.println("run " + number + ", call " + calls + ": " + NAMES[kind]
                    + java.util.Arrays.toString(a) + " answered " + got + ", the model " + want
                    + " (list " + model.list() + ", rule " + model.now.rule + ", need " + model.now.need + ")");
            }
        }

        private void compareState() {
            int struck = 0;
            for (int i = 0; i < 6; i++) {
                struck |= model.now.struck[i] ? 1 << i : 0;
                dueTold(10 + i, model.now.gatherers[i]);
                dueTold(20 + i, model.now.sheets[i].length());
            }
            dueTold(0, model.pad.length());
            dueTold(1, model.now.need);
            dueTold(2, model.now.rule.length());
            dueTold(3, struck);
        }

        private void dueTold(int what, int want) {
            if (calls >= CALLS) {
                return;
            }
            calls++;
            int got = x.told(what);
            if (got != want) {
                bad++;
                System.out.println("run " + number + ", call " + calls + ": told(" + what + ") is " + got
                    + ", the model's " + want);
            }
        }

        /** The model's numbers leave 15 out. */
        private long ask(int kind, int[] a) {
            return Calls.ask(x, kind > 15 ? kind - 1 : kind, a);
        }
    }
}
