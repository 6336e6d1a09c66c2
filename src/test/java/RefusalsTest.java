import java.util.function.Consumer;
import java.util.function.IntToLongFunction;
import java.util.function.Supplier;
import java.util.function.ToLongFunction;

/** What the terms say of refused calls: the bounds of each number, which refusal comes first, and that nothing changes. */
public final class RefusalsTest extends Dues {
    private static final int MIN = Integer.MIN_VALUE, MAX = Integer.MAX_VALUE;

    public static void main(String[] args) {
        boundsOfSheetCalls();
        boundsOfLotCalls();
        boundsOfGathererCalls();
        boundsOfTheOtherCalls();
        boundsOfPart();
        toldHasGaps();
        unknownComesFirst();
        outsideComesBeforeState();
        outsideComesBeforeFull();
        outsideComesBeforeNo();
        overfullIsRefusedWhereTold();
        refusedCallsChangeNothing();
        overfullRefusalsChangeNothing();
        emptyRefusalsChangeNothing();
        askingChangesNothing();
        all512CallsAreAnswered();
        end("refusals are as the terms say");
    }

    // ---- the bounds of each number

    /** Every number from least to most is granted, those around them and the far ones are refused. */
    private static void bounds(String call, int least, int most, long refusal, IntToLongFunction ask) {
        about("the bounds of " + call);
        for (int x = least; x <= most; x++) {
            if (ask.applyAsLong(x) == refusal) {
                due("it refused " + x + ", which", 0, 1);
            }
        }
        // The far ones would be within the bounds if some of their bits were lost.
        int[] outside = {least - 1, least - 2, most + 1, most + 2, least + 256, least - 256, least + 65536,
            least - 65536, least + (1 << 24), least ^ MIN, most ^ MIN, MIN, MIN + 1, MAX, MAX - 1, -most - 2};
        for (int x : outside) {
            if (x < least || x > most) {
                due("it with " + x, ask.applyAsLong(x), refusal);
            }
        }
    }

    /** 9 names, 3 bad ones, a pair, on three sheets of three gatherers; a good one of a sheet that is struck. */
    private static NamesByLot usual() {
        NamesByLot x = give(with(".As", "mBA", "..u", "."), 0, 1, 2, 3);
        return need(strikeOut(x, 3), 4);
    }

    private static NamesByLot overfull() {
        return need(with("AAA", "s."), 1);
    }

    private static void boundsOfSheetCalls() {
        bounds("say", 33, 126, OUTSIDE, c -> new NamesByLot().say(c));
        bounds("fault", 0, 1, OUTSIDE, how -> new NamesByLot().fault(how));
        bounds("names", 0, 5, UNKNOWN, sheet -> say(new NamesByLot(), "..").names(sheet));
        bounds("set: the sheet", 0, 5, UNKNOWN, sheet -> usual().set(sheet, 0, 0));
        bounds("set: what", 0, 1, OUTSIDE, what -> usual().set(0, what, 0));
        bounds("set: a gatherer", 0, 4, OUTSIDE, g -> usual().set(5, 0, g));
        bounds("set: struck", 0, 1, OUTSIDE, v -> usual().set(5, 1, v));
        bounds("sheet: the sheet", 0, 5, UNKNOWN, sheet -> usual().sheet(sheet, -1));
        bounds("sheet: the sheet, a place", 0, 5, UNKNOWN, sheet -> usual().sheet(sheet, 0));
        bounds("sheet: i", -1, 2, NONE, i -> usual().sheet(1, i));
        bounds("count", 0, 3, OUTSIDE, what -> usual().count(what));
        bounds("need", 0, 60, OUTSIDE, v -> usual().need(v));
    }

    private static void boundsOfLotCalls() {
        long refusal = LOST + OUTSIDE;
        bounds("comes: N", 0, 60, refusal, n -> usual().comes(n, 1, 1, 1, 0));
        bounds("comes: k", 0, 60, refusal, k -> usual().comes(1, k, 1, 1, 0));
        bounds("comes: v", 0, 60, refusal, v -> usual().comes(1, 1, v, 1, 0));
        bounds("comes: d", 0, 60, refusal, d -> usual().comes(1, 1, 1, d, 0));
        bounds("yes", 1, 9, refusal, k -> usual().yes(k, 0));
        bounds("bySheets", 1, 3, refusal, t -> usual().bySheets(t, 0));
        bounds("wrong", 1, 9, refusal, k -> usual().wrong(k, 0));
        bounds("enough", 0, 1000, OUTSIDE, doubt -> usual().enough(doubt));
        bounds("worth: k", 1, 9, refusal, k -> usual().worth(k, 1, 1, 0));
        bounds("worth: v", 0, 60, refusal, v -> usual().worth(1, v, 1, 0));
        bounds("worth: d", 0, 60, refusal, d -> usual().worth(1, 1, d, 0));
    }

    private static void boundsOfGathererCalls() {
        bounds("gatherer: g", 0, 4, UNKNOWN, g -> usual().gatherer(g, 0));
        bounds("gatherer: what", 0, 1, OUTSIDE, what -> usual().gatherer(0, what));
        bounds("seems: g", 0, 4, LOST + UNKNOWN, g -> usual().seems(g, 0));
        bounds("shared: g", 0, 4, LOST + UNKNOWN, g -> usual().shared(g, 0));
        NamesByLot x = new NamesByLot();
        bounds("fine: pay", 0, 999, OUTSIDE, pay -> x.fine(pay, 5, 7));
        bounds("fine: tenths", 0, 10, OUTSIDE, tenths -> x.fine(3, tenths, 7));
        bounds("fine: saved", 0, 999, OUTSIDE, saved -> x.fine(3, 5, saved));
        bounds("word: right", 0, 10, LOST + OUTSIDE, right -> usual().word(right, 1, 0));
        bounds("word: fooled", 0, 10, LOST + OUTSIDE, fooled -> usual().word(1, fooled, 0));
    }

    private static void boundsOfTheOtherCalls() {
        bounds("strike", 0, 5, UNKNOWN, sheet -> usual().strike(sheet));
        bounds("against: what", 0, 1, OUTSIDE, what -> usual().against(what, 1));
        bounds("against: k", 1, 9, OUTSIDE, k -> usual().against(0, k));
        bounds("against: k of doubled ones", 1, 9, OUTSIDE, k -> usual().against(1, k));
        NamesByLot x = usual();
        bounds("heap: the seed", 0, 9999, OUTSIDE, seed -> x.heap(seed, 1, 0));
        bounds("heap: k", 1, 9, OUTSIDE, k -> usual().heap(1, k, 0));
        bounds("heap: what", 0, 2, OUTSIDE, what -> usual().heap(1, 1, what));
        bounds("image", 0, 1, OUTSIDE, n -> usual().image(n));
        NamesByLot kept = usual();
        kept.image(0);
        kept.image(1);
        bounds("restore", 0, 1, OUTSIDE, n -> kept.restore(n));
    }

    private static void boundsOfPart() {
        long refusal = LOST + OUTSIDE;
        bounds("comes: part", 0, 1, refusal, part -> usual().comes(1, 1, 1, 1, part));
        bounds("yes: part", 0, 1, refusal, part -> usual().yes(1, part));
        bounds("bySheets: part", 0, 1, refusal, part -> usual().bySheets(1, part));
        bounds("wrong: part", 0, 1, refusal, part -> usual().wrong(1, part));
        bounds("worth: part", 0, 1, refusal, part -> usual().worth(1, 1, 1, part));
        bounds("seems: part", 0, 1, refusal, part -> usual().seems(0, part));
        bounds("shared: part", 0, 1, refusal, part -> usual().shared(0, part));
        bounds("word: part", 0, 1, refusal, part -> usual().word(1, 1, part));
    }

    private static void toldHasGaps() {
        bounds("told: 0 to 3", 0, 3, OUTSIDE, what -> usual().told(what));
        bounds("told: 10 to 15", 10, 15, OUTSIDE, what -> usual().told(what));
        bounds("told: 20 to 25", 20, 25, OUTSIDE, what -> usual().told(what));
        about("told: OUTSIDE");
        for (int what = -30; what <= 60; what++) {
            boolean known = what >= 0 && what <= 3 || what >= 10 && what <= 15 || what >= 20 && what <= 25;
            due("told(" + what + ") is refused", new NamesByLot().told(what) == OUTSIDE ? 1 : 0, known ? 0 : 1);
        }
    }

    // ---- the first of these that fits

    private static void unknownComesFirst() {
        about("UNKNOWN comes before OUTSIDE");
        for (int sheet : new int[] {-1, 6, MIN, MAX}) {
            due("set(.., 2, 0)", usual().set(sheet, 2, 0), UNKNOWN);
            due("set(.., 0, 5)", usual().set(sheet, 0, 5), UNKNOWN);
            due("set(.., 1, -1)", usual().set(sheet, 1, -1), UNKNOWN);
        }
        for (int g : new int[] {-1, 5, MIN, MAX}) {
            due("gatherer(.., 2)", usual().gatherer(g, 2), UNKNOWN);
            due("gatherer(.., -1)", usual().gatherer(g, -1), UNKNOWN);
            due("seems(.., 2)", usual().seems(g, 2), LOST + UNKNOWN);
            due("seems(.., -1)", usual().seems(g, -1), LOST + UNKNOWN);
            due("shared(.., 2)", usual().shared(g, 2), LOST + UNKNOWN);
            due("shared(.., -1)", usual().shared(g, -1), LOST + UNKNOWN);
        }
        about("UNKNOWN comes before STATE");
        due("strike(6)", overfull().strike(6), UNKNOWN);
        due("strike(-1)", overfull().strike(-1), UNKNOWN);
        about("UNKNOWN comes before NO");
        due("names(6)", say(usual(), "!").names(6), UNKNOWN);
        due("names(-1)", say(usual(), "!").names(-1), UNKNOWN);
        about("UNKNOWN comes before NONE");
        due("sheet(6, -2)", usual().sheet(6, -2), UNKNOWN);
        due("sheet(-1, 10)", usual().sheet(-1, 10), UNKNOWN);
    }

    private static void outsideComesBeforeState() {
        about("OUTSIDE comes before STATE: THE LIST is overfull");
        NamesByLot x = overfull();
        due("count(4)", x.count(4), OUTSIDE);
        due("count(-1)", x.count(-1), OUTSIDE);
        for (int[] a : new int[][] {{0, 0}, {6, 0}, {1, 2}, {1, -1}}) {
            due("yes" + told(a), x.yes(a[0], a[1]), LOST + OUTSIDE);
            due("wrong" + told(a), x.wrong(a[0], a[1]), LOST + OUTSIDE);
        }
        for (int[] a : new int[][] {{0, 0}, {3, 0}, {1, 2}, {1, -1}}) {
            due("bySheets" + told(a), x.bySheets(a[0], a[1]), LOST + OUTSIDE);
        }
        due("enough(-1)", x.enough(-1), OUTSIDE);
        due("enough(1001)", x.enough(1001), OUTSIDE);
        for (int[] a : new int[][] {{-1, 1}, {2, 1}, {0, 0}, {0, 6}, {1, 0}, {1, 6}}) {
            due("against" + told(a), x.against(a[0], a[1]), OUTSIDE);
        }
        for (int[] a : new int[][] {{-1, 1, 0}, {10000, 1, 0}, {0, 0, 0}, {0, 6, 0}, {0, 1, -1}, {0, 1, 3}}) {
            due("heap" + told(a), x.heap(a[0], a[1], a[2]), OUTSIDE);
        }
        about("OUTSIDE comes before STATE: THE LIST is empty");
        due("enough(-1)", new NamesByLot().enough(-1), OUTSIDE);
        due("enough(1001)", new NamesByLot().enough(1001), OUTSIDE);
        about("OUTSIDE comes before STATE: there is no image");
        due("restore(-1)", x.restore(-1), OUTSIDE);
        due("restore(2)", x.restore(2), OUTSIDE);
    }

    private static void outsideComesBeforeFull() {
        about("OUTSIDE comes before FULL");
        NamesByLot x = say(new NamesByLot(), "................");
        due("say(32)", x.say(32), OUTSIDE);
        due("say(127)", x.say(127), OUTSIDE);
        due("say(33)", x.say(33), FULL);
        due("say(126)", x.say(126), FULL);
    }

    private static void outsideComesBeforeNo() {
        about("OUTSIDE comes before NO");
        NamesByLot x = rule(usual(), "/10");
        for (int i = 0; i < 4; i++) {
            for (int wrong : new int[] {-1, 61}) {
                int[] a = {0, 0, 0, 0};
                a[i] = wrong;
                due("comes" + told(a), x.comes(a[0], a[1], a[2], a[3], 0), LOST + OUTSIDE);
            }
        }
        due("comes(0, 0, 0, 0, 2)", x.comes(0, 0, 0, 0, 2), LOST + OUTSIDE);
        due("comes(0, 0, 0, 0, -1)", x.comes(0, 0, 0, 0, -1), LOST + OUTSIDE);
        for (int[] a : new int[][] {{0, 0, 0, 0}, {10, 0, 0, 0}, {1, -1, 0, 0}, {1, 61, 0, 0}, {1, 0, -1, 0},
            {1, 0, 61, 0}, {1, 0, 0, 2}, {1, 0, 0, -1}}) {
            due("worth" + told(a), x.worth(a[0], a[1], a[2], a[3]), LOST + OUTSIDE);
        }
        due("worth(1, 0, 0, 0)", x.worth(1, 0, 0, 0), LOST + NO);
        NamesByLot empty = new NamesByLot();
        for (int[] a : new int[][] {{11, 0, 0}, {-1, 0, 0}, {0, 11, 0}, {0, -1, 0}, {0, 0, 2}, {0, 0, -1}}) {
            due("word" + told(a), empty.word(a[0], a[1], a[2]), LOST + OUTSIDE);
        }
        due("word(0, 0, 0)", empty.word(0, 0, 0), LOST + NO);
    }

    private static String told(int[] a) {
        return java.util.Arrays.toString(a);
    }

    /** What needs that THE LIST is not overfull is refused with STATE, the rest is answered. */
    private static void overfullIsRefusedWhereTold() {
        about("THE LIST is overfull");
        NamesByLot x = overfull();
        due("count(0)", x.count(0), 5);
        due("count(1)", x.count(1), 1);
        due("count(2)", x.count(2), STATE);
        due("count(3)", x.count(3), STATE);
        yes(x, 1, LOST + STATE, LOST + STATE);
        yes(x, 5, LOST + STATE, LOST + STATE);
        bySheets(x, 1, LOST + STATE, LOST + STATE);
        bySheets(x, 2, LOST + STATE, LOST + STATE);
        wrong(x, 1, LOST + STATE, LOST + STATE);
        wrong(x, 5, LOST + STATE, LOST + STATE);
        due("enough(0)", x.enough(0), STATE);
        due("enough(1000)", x.enough(1000), STATE);
        worth(x, 5, 4, 1, 1, 1);
        due("gatherer(0, 0)", x.gatherer(0, 0), 5);
        due("gatherer(0, 1)", x.gatherer(0, 1), 1);
        seems(x, 0, 1, 1);
        due("suspect()", x.suspect(), 0);
        shared(x, 0, 1, 1);
        word(x, 1, 1, 4, 5);
        due("strike(0)", x.strike(0), STATE);
        due("strike(1)", x.strike(1), STATE);
        due("strike(5)", x.strike(5), STATE);
        due("worst()", x.worst(), STATE);
        due("against(0, 1)", x.against(0, 1), STATE);
        due("against(1, 5)", x.against(1, 5), STATE);
        due("heap(0, 1, 0)", x.heap(0, 1, 0), STATE);
        due("heap(9999, 5, 2)", x.heap(9999, 5, 2), STATE);
        due("image(0)", x.image(0), 1);
        due("restore(0)", x.restore(0), 1);
    }

    // ---- they change nothing

    /** The call answers what is due, and all that is asked after it is answered as if it had not been. */
    private static void unchanged(Supplier<NamesByLot> made, String call, ToLongFunction<NamesByLot> ask, long want) {
        NamesByLot x = made.get();
        due(call, ask.applyAsLong(x), want);
        due("all that can be seen after " + call, picture(x), picture(made.get()));
    }

    private static String picture(NamesByLot x) {
        StringBuilder text = new StringBuilder();
        addState(text, x);
        add(text, "pad", x.fault(0), x.fault(1), x.rule(), x.names(5), x.wipe());
        addState(text, x);
        for (int n = 0; n <= 1; n++) {
            add(text, "image", x.restore(n));
            addState(text, x);
        }
        return text.toString();
    }

    private static void addState(StringBuilder text, NamesByLot x) {
        add(text, "told", x.told(0), x.told(1), x.told(2), x.told(3));
        for (int sheet = 0; sheet < 6; sheet++) {
            add(text, "sheet", x.told(10 + sheet), x.told(20 + sheet), x.sheet(sheet, -1));
            for (int i = 0; i < x.told(20 + sheet); i++) {
                add(text, "", x.sheet(sheet, i));
            }
        }
        add(text, "rule", x.comes(59, 7, 11, 3, 0), x.comes(59, 7, 11, 3, 1), x.comes(0, 1, 2, 5, 0));
    }

    private static void add(StringBuilder text, String what, long... answers) {
        text.append(what);
        for (long answer : answers) {
            text.append(' ').append(answer);
        }
        text.append(';');
    }

    /** Sheet 2 is struck, the pad is full and good for nothing, image 0 holds something else, image 1 nothing. */
    private static NamesByLot rich() {
        NamesByLot x = need(rule(with("Zs", "", "m", "uu.", "", "QQ"), "-9d"), 11);
        strikeOut(x, 4);
        give(x, 4, 3, 2, 1, 0, 2);
        x.image(0);
        say(x, ".As").names(0);
        say(x, "mBA").names(1);
        say(x, "..").names(2);
        x.names(3);
        need(rule(x, "+vd"), 7);
        x.set(4, 1, 0);
        strikeOut(x, 2);
        give(x, 1, 2, 3, 0, 4, 0);
        return say(x, "+NA.sm!.........");
    }

    private static NamesByLot richButOverfull() {
        NamesByLot x = rich();
        x.wipe();
        say(x, "AB").names(4);
        return say(x, "*vd");
    }

    private static void refusedCallsChangeNothing() {
        about("refused calls change nothing");
        Supplier<NamesByLot> x = RefusalsTest::rich;
        unchanged(x, "say(32)", y -> y.say(32), OUTSIDE);
        unchanged(x, "say(127)", y -> y.say(127), OUTSIDE);
        unchanged(x, "say(46)", y -> y.say(46), FULL);
        unchanged(x, "fault(2)", y -> y.fault(2), OUTSIDE);
        unchanged(x, "names(6)", y -> y.names(6), UNKNOWN);
        unchanged(x, "names(0)", y -> y.names(0), NO);
        unchanged(x, "rule()", y -> y.rule(), NO);
        unchanged(x, "set(6, 0, 1)", y -> y.set(6, 0, 1), UNKNOWN);
        unchanged(x, "set(-1, 1, 1)", y -> y.set(-1, 1, 1), UNKNOWN);
        unchanged(x, "set(0, 2, 1)", y -> y.set(0, 2, 1), OUTSIDE);
        unchanged(x, "set(0, -1, 1)", y -> y.set(0, -1, 1), OUTSIDE);
        unchanged(x, "set(0, 0, 5)", y -> y.set(0, 0, 5), OUTSIDE);
        unchanged(x, "set(0, 0, -1)", y -> y.set(0, 0, -1), OUTSIDE);
        unchanged(x, "set(0, 1, 2)", y -> y.set(0, 1, 2), OUTSIDE);
        unchanged(x, "set(0, 1, -1)", y -> y.set(0, 1, -1), OUTSIDE);
        unchanged(x, "sheet(6, 0)", y -> y.sheet(6, 0), UNKNOWN);
        unchanged(x, "count(4)", y -> y.count(4), OUTSIDE);
        unchanged(x, "need(61)", y -> y.need(61), OUTSIDE);
        unchanged(x, "need(-1)", y -> y.need(-1), OUTSIDE);
        unchanged(x, "comes(61, 0, 0, 0, 0)", y -> y.comes(61, 0, 0, 0, 0), LOST + OUTSIDE);
        unchanged(x, "yes(9, 0)", y -> y.yes(9, 0), LOST + OUTSIDE);
        unchanged(x, "bySheets(4, 0)", y -> y.bySheets(4, 0), LOST + OUTSIDE);
        unchanged(x, "wrong(9, 0)", y -> y.wrong(9, 0), LOST + OUTSIDE);
        unchanged(x, "enough(1001)", y -> y.enough(1001), OUTSIDE);
        unchanged(x, "worth(9, 0, 0, 0)", y -> y.worth(9, 0, 0, 0), LOST + OUTSIDE);
        unchanged(x, "gatherer(5, 0)", y -> y.gatherer(5, 0), UNKNOWN);
        unchanged(x, "gatherer(0, 2)", y -> y.gatherer(0, 2), OUTSIDE);
        unchanged(x, "seems(5, 0)", y -> y.seems(5, 0), LOST + UNKNOWN);
        unchanged(x, "shared(0, 2)", y -> y.shared(0, 2), LOST + OUTSIDE);
        unchanged(x, "fine(1000, 0, 0)", y -> y.fine(1000, 0, 0), OUTSIDE);
        unchanged(x, "word(0, 11, 0)", y -> y.word(0, 11, 0), LOST + OUTSIDE);
        unchanged(x, "strike(6)", y -> y.strike(6), UNKNOWN);
        unchanged(x, "strike(2)", y -> y.strike(2), STATE);
        unchanged(x, "against(2, 1)", y -> y.against(2, 1), OUTSIDE);
        unchanged(x, "heap(0, 9, 0)", y -> y.heap(0, 9, 0), OUTSIDE);
        unchanged(x, "image(2)", y -> y.image(2), OUTSIDE);
        unchanged(x, "image(-1)", y -> y.image(-1), OUTSIDE);
        unchanged(x, "restore(2)", y -> y.restore(2), OUTSIDE);
        unchanged(x, "restore(1)", y -> y.restore(1), STATE);
        unchanged(x, "told(4)", y -> y.told(4), OUTSIDE);
    }

    private static void overfullRefusalsChangeNothing() {
        about("calls that are refused with STATE change nothing");
        Supplier<NamesByLot> x = RefusalsTest::richButOverfull;
        unchanged(x, "count(3)", y -> y.count(3), STATE);
        unchanged(x, "yes(1, 0)", y -> y.yes(1, 0), LOST + STATE);
        unchanged(x, "bySheets(1, 0)", y -> y.bySheets(1, 0), LOST + STATE);
        unchanged(x, "wrong(1, 0)", y -> y.wrong(1, 0), LOST + STATE);
        unchanged(x, "enough(0)", y -> y.enough(0), STATE);
        unchanged(x, "strike(0)", y -> y.strike(0), STATE);
        unchanged(x, "worst()", y -> y.worst(), STATE);
        unchanged(x, "against(0, 1)", y -> y.against(0, 1), STATE);
        unchanged(x, "heap(0, 1, 0)", y -> y.heap(0, 1, 0), STATE);
        unchanged(x, "names(0)", y -> y.names(0), NO);
    }

    private static void emptyRefusalsChangeNothing() {
        about("calls that are refused for an empty list change nothing");
        Supplier<NamesByLot> x = NamesByLot::new;
        unchanged(x, "rule()", y -> y.rule(), NO);
        unchanged(x, "yes(1, 0)", y -> y.yes(1, 0), LOST + OUTSIDE);
        unchanged(x, "bySheets(1, 0)", y -> y.bySheets(1, 0), LOST + OUTSIDE);
        unchanged(x, "wrong(1, 0)", y -> y.wrong(1, 0), LOST + OUTSIDE);
        unchanged(x, "enough(0)", y -> y.enough(0), STATE);
        unchanged(x, "worth(1, 0, 0, 0)", y -> y.worth(1, 0, 0, 0), LOST + OUTSIDE);
        unchanged(x, "word(1, 1, 0)", y -> y.word(1, 1, 0), LOST + NO);
        unchanged(x, "suspect()", y -> y.suspect(), NONE);
        unchanged(x, "against(0, 1)", y -> y.against(0, 1), OUTSIDE);
        unchanged(x, "heap(0, 1, 0)", y -> y.heap(0, 1, 0), OUTSIDE);
        unchanged(x, "restore(0)", y -> y.restore(0), STATE);
        unchanged(x, "restore(1)", y -> y.restore(1), STATE);
    }

    /** What only asks, asks: the list is . A s m B A Q Q, the rule +vd, the need 7, the pad full. */
    private static void askingChangesNothing() {
        about("calls that ask change nothing");
        Supplier<NamesByLot> x = RefusalsTest::rich;
        unchanged(x, "fault(0)", y -> y.fault(0), 0);
        unchanged(x, "fault(1)", y -> y.fault(1), 2);
        unchanged(x, "sheet(1, 1)", y -> y.sheet(1, 1), 'B');
        unchanged(x, "count(3)", y -> y.count(3), 4);
        unchanged(x, "comes(1, 2, 3, 4, 0)", y -> y.comes(1, 2, 3, 4, 0), 7);
        unchanged(x, "yes(4, 0)", y -> y.yes(4, 0), 0);
        unchanged(x, "bySheets(2, 0)", y -> y.bySheets(2, 0), 0);
        unchanged(x, "wrong(6, 0)", y -> y.wrong(6, 0), 5);
        unchanged(x, "enough(0)", y -> y.enough(0), 1);
        unchanged(x, "worth(1, 1, 1, 0)", y -> y.worth(1, 1, 1, 0), -1);
        unchanged(x, "gatherer(2, 1)", y -> y.gatherer(2, 1), 1);
        unchanged(x, "seems(1, 0)", y -> y.seems(1, 0), 9);
        unchanged(x, "suspect()", y -> y.suspect(), 1);
        unchanged(x, "shared(1, 1)", y -> y.shared(1, 1), 1);
        unchanged(x, "fine(1, 5, 2)", y -> y.fine(1, 5, 2), 3);
        unchanged(x, "word(10, 10, 0)", y -> y.word(10, 10, 0), 3);
        unchanged(x, "strike(0)", y -> y.strike(0), 1);
        unchanged(x, "worst()", y -> y.worst(), 0);
        unchanged(x, "against(0, 6)", y -> y.against(0, 6), 0);
        unchanged(x, "against(1, 6)", y -> y.against(1, 6), 0);
        unchanged(x, "heap(0, 6, 1)", y -> y.heap(0, 6, 1), 0);
        unchanged(x, "told(3)", y -> y.told(3), 4);
    }

    private static void all512CallsAreAnswered() {
        about("an object is used for at most 512 calls");
        NamesByLot x = new NamesByLot();
        Consumer<NamesByLot> sixteen = y -> {
            for (int n = 1; n <= 15; n++) {
                due("say(46)", y.say(46), n);
            }
            due("wipe()", y.wipe(), 15);
        };
        for (int i = 0; i < 32; i++) {
            sixteen.accept(x);
        }
    }
}
