/** What the tests share: answers that are due, and objects made from texts. */
abstract class Dues {
    static final int NONE = -6, UNKNOWN = -1, OUTSIDE = -2, STATE = -3, FULL = -4, NO = -5;
    static final long LOST = -1000000000000000000L;
    private static String about = "";
    private static int bad;

    /** What the answers that follow are due by. */
    static void about(String sentence) {
        about = sentence;
    }

    static void due(String call, long got, long want) {
        if (got != want) {
            bad++;
            System.out.println(about + ": " + call + " answered " + got + ", due is " + want);
        }
    }

    static void due(String what, String got, String want) {
        if (!got.equals(want)) {
            bad++;
            System.out.println(about + ": " + what + " is " + got + ", due is " + want);
        }
    }

    static void end(String allIsWell) {
        System.out.println(bad == 0 ? allIsWell : bad + " answers are not as due");
        if (bad != 0) {
            System.exit(1);
        }
    }

    static NamesByLot say(NamesByLot x, String text) {
        for (int i = 0; i < text.length(); i++) {
            x.say(text.charAt(i));
        }
        return x;
    }

    /** A new object with these texts as sheets 0, 1, ... */
    static NamesByLot with(String... sheets) {
        NamesByLot x = new NamesByLot();
        for (int i = 0; i < sheets.length; i++) {
            due("names(" + i + ") of " + sheets[i], say(x, sheets[i]).names(i), sheets[i].length());
        }
        return x;
    }

    static NamesByLot rule(NamesByLot x, String text) {
        due("rule() of " + text, say(x, text).rule(), text.length());
        return x;
    }

    static NamesByLot need(NamesByLot x, int v) {
        x.need(v);
        return x;
    }

    static NamesByLot strikeOut(NamesByLot x, int... sheets) {
        for (int sheet : sheets) {
            x.set(sheet, 1, 1);
        }
        return x;
    }

    /** Sheet 0, 1, ... go to these gatherers. */
    static NamesByLot give(NamesByLot x, int... gatherers) {
        for (int sheet = 0; sheet < gatherers.length; sheet++) {
            x.set(sheet, 0, gatherers[sheet]);
        }
        return x;
    }

    static void yes(NamesByLot x, int k, long upper, long lower) {
        due("yes(" + k + ", 0)", x.yes(k, 0), upper);
        due("yes(" + k + ", 1)", x.yes(k, 1), lower);
    }

    static void wrong(NamesByLot x, int k, long upper, long lower) {
        due("wrong(" + k + ", 0)", x.wrong(k, 0), upper);
        due("wrong(" + k + ", 1)", x.wrong(k, 1), lower);
    }

    static void bySheets(NamesByLot x, int t, long upper, long lower) {
        due("bySheets(" + t + ", 0)", x.bySheets(t, 0), upper);
        due("bySheets(" + t + ", 1)", x.bySheets(t, 1), lower);
    }

    static void comes(NamesByLot x, int all, int k, int v, int d, long upper, long lower) {
        String numbers = "comes(" + all + ", " + k + ", " + v + ", " + d;
        due(numbers + ", 0)", x.comes(all, k, v, d, 0), upper);
        due(numbers + ", 1)", x.comes(all, k, v, d, 1), lower);
    }

    static void worth(NamesByLot x, int k, int v, int d, long upper, long lower) {
        due("worth(" + k + ", " + v + ", " + d + ", 0)", x.worth(k, v, d, 0), upper);
        due("worth(" + k + ", " + v + ", " + d + ", 1)", x.worth(k, v, d, 1), lower);
    }

    static void seems(NamesByLot x, int g, long upper, long lower) {
        due("seems(" + g + ", 0)", x.seems(g, 0), upper);
        due("seems(" + g + ", 1)", x.seems(g, 1), lower);
    }

    static void shared(NamesByLot x, int g, long upper, long lower) {
        due("shared(" + g + ", 0)", x.shared(g, 0), upper);
        due("shared(" + g + ", 1)", x.shared(g, 1), lower);
    }

    static void word(NamesByLot x, int right, int fooled, long upper, long lower) {
        due("word(" + right + ", " + fooled + ", 0)", x.word(right, fooled, 0), upper);
        due("word(" + right + ", " + fooled + ", 1)", x.word(right, fooled, 1), lower);
    }
}
