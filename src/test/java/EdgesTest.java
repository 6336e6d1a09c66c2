import java.math.BigInteger;

/** Each sentence of the document that names an edge, told before the calls that would show it broken. */
public final class EdgesTest extends Dues {
    private static final String TEN_GOOD = "..........", TEN_BAD = "ssssssssss";

    public static void main(String[] args) {
        sheetsAtFirst();
        padTakes16Signs();
        padTakesCodes33To126();
        namesAreUpTo10Signs();
        namesAreOfTheseSigns();
        faultIsTheFirst();
        namesEmptyThePad();
        sheetToldByPlace();
        listIsOfSheetsNotStruck();
        twiceIsNotOverfull();
        moreThanTwiceIsOverfull();
        onlyPeopleCanBeTooMany();
        goodCountsEachOnce();
        needIsKept();
        ruleIsUpTo11Signs();
        ruleIsOfTheseSigns();
        ruleEndsWhereItEnds();
        ruleAtFirst();
        ruleDividesBy0();
        fractionsInLowestTerms();
        yesFromNeedOn();
        lotsFrom1ToAll();
        lotsOf60Names();
        sheetsByLot();
        wrongAtTheNeed();
        enoughByDoubt();
        enoughOfManyWays();
        worthOfADoubleOne();
        gatherersWithoutNames();
        seemsAtItsEdges();
        suspectIsTheFirstOfTheLeast();
        suspectOfClosestOdds();
        sharedIs1AtMost();
        fineWhereItDoesNotPay();
        wordIfHeNeverSaysSo();
        strikingOfEverySort();
        worstIsTheLeastSuch();
        againstFrom0To30();
        againstAll60AtMost();
        againstDots();
        againstLessThanAHalf();
        heapOfOneAndOfAll();
        heapSeedGoesRound();
        heapSaysYes();
        imagesAreTwo();
        imagesKeepAllButSigns();
        toldAtItsEdges();
        end("the edges hold");
    }

    private static String times(String sign, int n) {
        return sign.repeat(n);
    }

    private static void count(NamesByLot x, int all, int bad, int pairs, int good) {
        due("count(0)", x.count(0), all);
        due("count(1)", x.count(1), bad);
        due("count(2)", x.count(2), pairs);
        due("count(3)", x.count(3), good);
    }

    // ---- 1 sheets

    private static void sheetsAtFirst() {
        about("GATHERER 0, not STRUCK, no NAMES at first");
        for (int sheet = 0; sheet < 6; sheet++) {
            due("set(" + sheet + ", 0, 4)", new NamesByLot().set(sheet, 0, 4), 0);
            due("set(" + sheet + ", 1, 1)", new NamesByLot().set(sheet, 1, 1), 0);
            due("sheet(" + sheet + ", -1)", new NamesByLot().sheet(sheet, -1), 0);
            due("sheet(" + sheet + ", 0)", new NamesByLot().sheet(sheet, 0), NONE);
        }
        about("which it was");
        NamesByLot x = new NamesByLot();
        int before = 0;
        for (int g : new int[] {4, 3, 3, 1, 0, 2}) {
            due("set(3, 0, " + g + ")", x.set(3, 0, g), before);
            before = g;
        }
        due("set(3, 1, 0)", x.set(3, 1, 0), 0);
        due("set(3, 1, 1)", x.set(3, 1, 1), 0);
        due("set(3, 1, 1)", x.set(3, 1, 1), 1);
        due("set(2, 1, 0)", x.set(2, 1, 0), 0);
        due("set(4, 1, 0)", x.set(4, 1, 0), 0);
        due("set(3, 1, 0)", x.set(3, 1, 0), 1);
        due("told(13)", x.told(13), 2);
        about("the NEED is 30 at first, an object has no NAMES");
        due("need(30)", new NamesByLot().need(30), 30);
        count(new NamesByLot(), 0, 0, 0, 0);
    }

    private static void padTakes16Signs() {
        about("a sign more on the PAD, 16 at most");
        NamesByLot x = new NamesByLot();
        for (int n = 1; n <= 16; n++) {
            due("say(46)", x.say(46), n);
        }
        due("the 17th", x.say(46), FULL);
        due("the 17th again", x.say(65), FULL);
        due("wipe() of 16", x.wipe(), 16);
        due("say(46) then", x.say(46), 1);
        due("wipe() of 1", x.wipe(), 1);
        due("wipe() of none", x.wipe(), 0);
        due("told(0)", x.told(0), 0);
    }

    private static void padTakesCodes33To126() {
        about("codes 33 to 126");
        for (int code = -300; code <= 600; code++) {
            due("say(" + code + ")", new NamesByLot().say(code), code >= 33 && code <= 126 ? 1 : OUTSIDE);
        }
    }

    private static void namesAreUpTo10Signs() {
        about("NAMES are up to 10 signs, an 11th can not stand there; no signs are none");
        for (int n = 0; n <= 16; n++) {
            NamesByLot x = say(new NamesByLot(), times(".", n));
            due("fault(0) of " + n + " signs", x.fault(0), n <= 10 ? NONE : 10);
            due("names(2) of " + n + " signs", x.names(2), n <= 10 ? n : NO);
            due("told(0) after it", x.told(0), n <= 10 ? 0 : n);
            due("sheet(2, -1)", x.sheet(2, -1), n <= 10 ? n : 0);
        }
        for (int sheet = 0; sheet < 6; sheet++) {
            NamesByLot x = new NamesByLot();
            due("names(" + sheet + ")", say(x, "ABCDEFGHIJ").names(sheet), 10);
            for (int i = 0; i < 10; i++) {
                due("sheet(" + sheet + ", " + i + ")", x.sheet(sheet, i), 'A' + i);
            }
            count(x, 10, 0, 0, 10);
            due("names(" + sheet + ") of none", x.names(sheet), 0);
            count(x, 0, 0, 0, 0);
        }
    }

    private static void namesAreOfTheseSigns() {
        about("NAMES are of . s m u A to Z");
        for (char sign = 33; sign <= 126; sign++) {
            boolean bad = sign == 's' || sign == 'm' || sign == 'u';
            boolean name = bad || sign == '.' || sign >= 'A' && sign <= 'Z';
            NamesByLot x = say(new NamesByLot(), "." + sign);
            due("fault(0) of ." + sign, x.fault(0), name ? NONE : 1);
            due("names(0) of ." + sign, x.names(0), name ? 2 : NO);
            count(x, name ? 2 : 0, bad ? 1 : 0, 0, !name ? 0 : bad ? 1 : 2);
        }
    }

    private static void faultIsTheFirst() {
        about("THE FAULT is the place, from 0 on, of the first sign that can not stand there");
        for (int place = 0; place < 10; place++) {
            String text = times("A", place) + "x" + times("y", 15 - place);
            due("fault(0) of " + text, say(new NamesByLot(), text).fault(0), place);
        }
        due("fault(0) with a good 11th", say(new NamesByLot(), "..........A").fault(0), 10);
        due("fault(0) with a bad 11th", say(new NamesByLot(), "..........x").fault(0), 10);
        due("fault(0) with a bad 12th", say(new NamesByLot(), "...........x").fault(0), 10);
        due("fault(0) with a bad 10th", say(new NamesByLot(), ".........x.").fault(0), 9);
    }

    private static void namesEmptyThePad() {
        about("the PAD becomes the NAMES of a SHEET, it is empty then");
        NamesByLot x = give(strikeOut(with("ABC"), 0), 3);
        due("names(0) of fewer", say(x, "s").names(0), 1);
        due("names(0) of none", x.names(0), 0);
        due("names(0) of more", say(x, ".uuD").names(0), 4);
        due("sheet(0, 3)", x.sheet(0, 3), 'D');
        due("sheet(0, 4)", x.sheet(0, 4), NONE);
        due("told(0)", x.told(0), 0);
        due("told(3): it is STRUCK as it was", x.told(3), 1);
        due("told(10): it is his as it was", x.told(10), 3);
        due("say(46)", x.say(46), 1);
    }

    private static void sheetToldByPlace() {
        about("how many NAMES (i = -1), the i-th; NONE, i below -1, too");
        NamesByLot x = strikeOut(with("", "Z.m", TEN_GOOD), 1);
        int[] told = {NONE, NONE, 3, 'Z', '.', 'm', NONE, NONE};
        for (int i = -3; i <= 4; i++) {
            due("sheet(1, " + i + ")", x.sheet(1, i), told[i + 3]);
        }
        due("sheet(2, 9)", x.sheet(2, 9), '.');
        due("sheet(2, 10): not the next sheet's", x.sheet(2, 10), NONE);
        due("sheet(0, 0)", x.sheet(0, 0), NONE);
        due("sheet(0, 10): not the next sheet's", x.sheet(0, 10), NONE);
        due("sheet(1, -11): not the sheet's before", x.sheet(1, -11), NONE);
        due("sheet(5, MAX)", x.sheet(5, Integer.MAX_VALUE), NONE);
        due("sheet(5, MIN)", x.sheet(5, Integer.MIN_VALUE), NONE);
    }

    private static void listIsOfSheetsNotStruck() {
        about("THE LIST: NAMES of all SHEETS that are not STRUCK");
        NamesByLot x = with("A", "As", "B.", "Bm", "CC", "u..");
        count(x, 12, 3, 3, 6);
        count(strikeOut(x, 0), 11, 3, 2, 6);
        count(strikeOut(x, 5), 8, 2, 2, 4);
        count(strikeOut(x, 1, 2, 3), 2, 0, 1, 1);
        count(strikeOut(x, 4), 0, 0, 0, 0);
        x.set(5, 1, 0);
        count(x, 3, 1, 0, 2);
        about("THE LIST at its largest");
        count(with(TEN_GOOD, TEN_GOOD, TEN_GOOD, TEN_GOOD, TEN_GOOD, TEN_GOOD), 60, 0, 0, 60);
        count(with(TEN_BAD, "mmmmmmmmmm", "uuuuuuuuuu", TEN_BAD, "mmmmmmmmmm", "uuuuuuuuuu"), 60, 60, 0, 0);
        count(with("ABCDEFGHIJ", "KLMNOPQRST", "UVWXYZABCD", "EFGHIJKLMN", "OPQRSTUVWX", "YZ......ss"), 60, 2, 26, 32);
    }

    private static void twiceIsNotOverfull() {
        about("A to Z: people, each of whom may stand on THE LIST twice");
        for (char person = 'A'; person <= 'Z'; person++) {
            String one = String.valueOf(person);
            count(with(one), 1, 0, 0, 1);
            count(with(one + one), 2, 0, 1, 1);
            count(with(one, "", "", "", "", one), 2, 0, 1, 1);
        }
    }

    private static void moreThanTwiceIsOverfull() {
        about("it is OVERFULL, if some of A to Z stands on it more than twice");
        for (char person = 'A'; person <= 'Z'; person++) {
            String one = String.valueOf(person);
            count(with(one + one + one), 3, 0, STATE, STATE);
            count(with(one, one, "", "", "", one), 3, 0, STATE, STATE);
        }
        count(with(times("A", 10)), 10, 0, STATE, STATE);
        NamesByLot x = with("AA.", "A", "B");
        count(x, 5, 0, STATE, STATE);
        count(strikeOut(x, 2), 4, 0, STATE, STATE);
        about("what is STRUCK does not stand on THE LIST");
        count(strikeOut(x, 1), 3, 0, 1, 2);
        x.set(1, 1, 0);
        count(x, 4, 0, STATE, STATE);
        count(strikeOut(x, 0), 1, 0, 0, 1);
    }

    private static void onlyPeopleCanBeTooMany() {
        about(". s m u may stand there as often as there is room");
        for (String sign : new String[] {".", "s", "m", "u"}) {
            String ten = times(sign, 10);
            boolean good = sign.equals(".");
            count(with(ten, ten, ten, ten, ten, ten), 60, good ? 0 : 60, 0, good ? 60 : 0);
        }
    }

    private static void goodCountsEachOnce() {
        about("GOOD: ., and each of A to Z once");
        count(with("ABCDEFGHIJ", "KLMNOPQRST", "UVWXYZ"), 26, 0, 0, 26);
        count(with("ABCABC.", "..", "sDu"), 12, 2, 3, 7);
    }

    private static void needIsKept() {
        about("NEED: 0 to 60, which it was");
        NamesByLot x = new NamesByLot();
        int before = 30;
        for (int v : new int[] {60, 0, 59, 1, 1}) {
            due("need(" + v + ")", x.need(v), before);
            due("told(1)", x.told(1), v);
            before = v;
        }
    }

    // ---- 2 lots

    private static void ruleIsUpTo11Signs() {
        about("THE RULE is up to 11 signs, a 12th can not stand");
        for (int operators = 0; operators <= 7; operators++) {
            String text = times("+", operators) + times("1", operators + 1);
            NamesByLot x = say(new NamesByLot(), text);
            due("fault(1) of " + text, x.fault(1), operators <= 5 ? NONE : 11);
            due("rule() of " + text, x.rule(), operators <= 5 ? text.length() : NO);
            due("told(2)", x.told(2), operators <= 5 ? text.length() : 11);
            due("told(0)", x.told(0), operators <= 5 ? 0 : text.length());
        }
        due("fault(1) of 12 operators", say(new NamesByLot(), times("*", 12)).fault(1), 11);
        due("fault(1) of 16 operators", say(new NamesByLot(), times("*", 16)).fault(1), 11);
        due("fault(1), the 12th no sign of a rule", say(new NamesByLot(), "+++++11111!").fault(1), 10);
        due("fault(1), the 12th no sign of a rule", say(new NamesByLot(), "++++++11111!").fault(1), 11);
        about("the number of signs, if more must come");
        String first = "-/*Nvk/*dNk";
        for (int n = 0; n < 11; n++) {
            NamesByLot x = say(new NamesByLot(), first.substring(0, n));
            due("fault(1) of " + n + " signs", x.fault(1), n);
            due("rule() of " + n + " signs", x.rule(), NO);
            due("told(0)", x.told(0), n);
        }
        due("fault(1) of all", say(new NamesByLot(), first).fault(1), NONE);
        for (int n = 1; n <= 11; n++) {
            due("fault(1) of " + n + " operators", say(new NamesByLot(), times("/", n)).fault(1), n);
        }
    }

    private static void ruleIsOfTheseSigns() {
        about("N k v d, a digit; + - * / and two texts");
        for (char sign = 33; sign <= 126; sign++) {
            boolean number = sign == 'N' || sign == 'k' || sign == 'v' || sign == 'd' || sign >= '0' && sign <= '9';
            boolean operator = sign == '+' || sign == '-' || sign == '*' || sign == '/';
            due("fault(1) of " + sign, say(new NamesByLot(), "" + sign).fault(1), number ? NONE : operator ? 1 : 0);
            due("fault(1) of -1" + sign, say(new NamesByLot(), "-1" + sign).fault(1), number ? NONE : operator ? 3 : 2);
            due("fault(1) of " + sign + "11", say(new NamesByLot(), sign + "11").fault(1), number ? 1 : operator ? NONE : 0);
        }
        for (char digit = '0'; digit <= '9'; digit++) {
            comes(rule(new NamesByLot(), "" + digit), 60, 60, 60, 60, digit - '0', 1);
        }
        comes(rule(new NamesByLot(), "-Nk"), 5, 7, 0, 0, -2, 1);
        comes(rule(new NamesByLot(), "/vd"), 0, 0, 5, 7, 5, 7);
        comes(rule(new NamesByLot(), "--123"), 0, 0, 0, 0, -4, 1);
        comes(rule(new NamesByLot(), "-1-23"), 0, 0, 0, 0, 2, 1);
        comes(rule(new NamesByLot(), "//123"), 0, 0, 0, 0, 1, 6);
        comes(rule(new NamesByLot(), "/1/23"), 0, 0, 0, 0, 3, 2);
    }

    private static void ruleEndsWhereItEnds() {
        about("a sign after the last can not stand there");
        String[] whole = {"N", "0", "+kk", "*+123", "*1+23", "-/*Nvk/*dN", "-/*Nvk/*dNk"};
        int[] ends = {1, 1, 3, 5, 5, NONE, 11};
        for (int i = 0; i < whole.length; i++) {
            for (char more : new char[] {'1', '+', 'x', '.'}) {
                due("fault(1) of " + whole[i] + more, say(new NamesByLot(), whole[i] + more).fault(1),
                    ends[i] != NONE ? ends[i] : more == '1' ? NONE : more == '+' ? 11 : 10);
            }
        }
        about("the PAD becomes THE RULE, it is empty then");
        NamesByLot x = rule(new NamesByLot(), "+1+1+1+1+11");
        comes(x, 0, 0, 0, 0, 6, 1);
        comes(rule(x, "2"), 0, 0, 0, 0, 2, 1);
        due("told(2)", x.told(2), 1);
        due("rule() of none", x.rule(), NO);
        due("rule() of what can not stand", say(x, "11").rule(), NO);
        due("told(0)", x.told(0), 2);
        comes(x, 0, 0, 0, 0, 2, 1);
    }

    private static void ruleAtFirst() {
        about("at first N times v by k, less d times N by k");
        NamesByLot x = new NamesByLot();
        comes(x, 60, 60, 60, 60, 0, 1);
        comes(x, 60, 7, 5, 2, 180, 7);
        comes(x, 60, 7, 2, 5, -180, 7);
        comes(x, 0, 1, 60, 60, 0, 1);
        comes(x, 60, 1, 60, 0, 3600, 1);
        comes(x, 60, 1, 0, 60, -3600, 1);
        comes(x, 60, 0, 60, 0, LOST + NO, LOST + NO);
        due("told(2)", x.told(2), 11);
    }

    private static void ruleDividesBy0() {
        about("it comes to nothing, if it divides by 0");
        for (String text : new String[] {"/10", "/00", "/N-kk", "*0/10", "/0/10", "+1/1-22", "/1/0N", "-/10/10", "//101"}) {
            comes(rule(new NamesByLot(), text), 5, 5, 5, 5, LOST + NO, LOST + NO);
        }
        about("0 divided comes to 0");
        for (String text : new String[] {"/01", "/-NN9", "*0/19", "/0-15", "/-kkN"}) {
            comes(rule(new NamesByLot(), text), 5, 5, 5, 5, 0, 1);
        }
        about("it divides by 0 for some numbers only");
        NamesByLot x = rule(new NamesByLot(), "/N-vd");
        comes(x, 6, 0, 4, 4, LOST + NO, LOST + NO);
        comes(x, 6, 0, 5, 4, 6, 1);
        comes(x, 6, 0, 4, 5, -6, 1);
        comes(x, 0, 0, 4, 5, 0, 1);
        about("nothing is no YES, NEED being 0");
        NamesByLot y = need(rule(with("..s"), "/0-v1"), 0);
        yes(y, 1, 1, 3);
        yes(y, 2, 1, 3);
        wrong(y, 1, 2, 3);
    }

    private static void fractionsInLowestTerms() {
        about("in lowest terms, the lower number above 0");
        NamesByLot x = rule(new NamesByLot(), "/Nk");
        comes(x, 60, 45, 0, 0, 4, 3);
        comes(x, 0, 60, 0, 0, 0, 1);
        comes(x, 60, 60, 0, 0, 1, 1);
        comes(x, 1, 60, 0, 0, 1, 60);
        comes(x, 59, 60, 0, 0, 59, 60);
        comes(rule(x, "/N-k9"), 6, 5, 0, 0, -3, 2);
        comes(rule(x, "/-k9-k9"), 0, 5, 0, 0, 1, 1);
        comes(rule(x, "/-k9N"), 6, 5, 0, 0, -2, 3);
        comes(rule(x, "-/1N/1k"), 6, 6, 0, 0, 0, 1);
        comes(rule(x, "/3-/121"), 0, 0, 0, 0, -6, 1);
        comes(rule(x, "/-/122-/131"), 0, 0, 0, 0, 9, 4);
        comes(rule(x, "/////1NNNNN"), 59, 0, 0, 0, 1, 59L * 59 * 59 * 59 * 59);
        comes(rule(x, "-0*N*N*N*NN"), 60, 0, 0, 0, -777600000L, 1);
    }

    private static void yesFromNeedOn() {
        about("it says YES, if it comes to NEED or more");
        // k is all of both, so the odds are 1 or 0.
        String[] rules = {"2", "/63", "/95", "/73", "-02", "0", "/08", "-/11/99"};
        int[][] from0To3 = {{1, 1, 1, 0}, {1, 1, 1, 0}, {1, 1, 0, 0}, {1, 1, 1, 0}, {0, 0, 0, 0}, {1, 0, 0, 0},
            {1, 0, 0, 0}, {1, 0, 0, 0}};
        for (int i = 0; i < rules.length; i++) {
            NamesByLot x = rule(with(".."), rules[i]);
            for (int v = 0; v <= 3; v++) {
                yes(need(x, v), 2, from0To3[i][v], 1);
                bySheets(x, 1, from0To3[i][v], 1);
                due("heap(0, 2, 2), " + rules[i] + ", " + v, x.heap(0, 2, 2), from0To3[i][v]);
            }
        }
        // 59 and 89 by 90 is not yet 60.
        yes(need(rule(with("."), "-*9+61/19"), 60), 1, 1, 1);
        yes(need(rule(with("."), "-*9+61/39"), 60), 1, 1, 1);
        yes(need(rule(with("."), "-*+456/19"), 54), 1, 0, 1);
        yes(need(rule(with("."), "-*+456/19"), 53), 1, 1, 1);
    }

    private static void lotsFrom1ToAll() {
        about("a LOT of k NAMES, 1 to ALL");
        NamesByLot x = need(rule(with(".A", "A", "s."), "v"), 1);
        strikeOut(x, 2);
        yes(x, 0, LOST + OUTSIDE, LOST + OUTSIDE);
        yes(x, 1, 1, 1);
        yes(x, 3, 1, 1);
        yes(x, 4, LOST + OUTSIDE, LOST + OUTSIDE);
        x.set(2, 1, 0);
        yes(x, 1, 4, 5);
        yes(x, 4, 1, 1);
        yes(x, 5, 1, 1);
        yes(x, 6, LOST + OUTSIDE, LOST + OUTSIDE);
        about("VALID: both of two of one, too; DOUBLE: both of whose NAMES are in it");
        NamesByLot two = with("AA");
        yes(need(rule(two, "v"), 2), 2, 1, 1);
        yes(need(rule(two, "d"), 1), 1, 0, 1);
        yes(two, 2, 1, 1);
        NamesByLot pairs = rule(with("ABC", "CBA", "s"), "d");
        // Of 35 lots of 4 have two pairs: 3; one: 3 pairs by 2 of 5 others, but for the 2 that are pairs: 24.
        yes(need(pairs, 2), 4, 3, 35);
        yes(need(pairs, 1), 4, 27, 35);
        yes(need(pairs, 3), 6, 1, 7);
        yes(need(pairs, 3), 7, 1, 1);
        about("THE LIST is empty: there is no LOT");
        yes(new NamesByLot(), 1, LOST + OUTSIDE, LOST + OUTSIDE);
        wrong(new NamesByLot(), 1, LOST + OUTSIDE, LOST + OUTSIDE);
        yes(strikeOut(with("."), 0), 1, LOST + OUTSIDE, LOST + OUTSIDE);
    }

    private static BigInteger choose(int n, int k) {
        BigInteger ways = k < 0 || k > n ? BigInteger.ZERO : BigInteger.ONE;
        for (int i = 0; i < k && k <= n; i++) {
            ways = ways.multiply(BigInteger.valueOf(n - i)).divide(BigInteger.valueOf(i + 1));
        }
        return ways;
    }

    /** In how many ways a lot of k has so many valid ones or more. */
    private static BigInteger waysToMany(int valid, int bad, int k, int least) {
        BigInteger sum = BigInteger.ZERO;
        for (int v = least; v <= valid; v++) {
            sum = sum.add(choose(valid, v).multiply(choose(bad, k - v)));
        }
        return sum;
    }

    private static void lotsOf60Names() {
        about("odds of 60 NAMES, exactly");
        NamesByLot x = rule(with(TEN_GOOD, "ABCDEFGHIJ", "ABCDEFGHIJ", TEN_BAD, "mmmmmmmmmm", "uuuuuuuuuu"), "v");
        for (int k : new int[] {1, 15, 29, 30, 31, 45, 59, 60}) {
            for (int least : new int[] {0, 1, 14, 15, 16, 29, 30, 31}) {
                BigInteger ways = waysToMany(30, 30, k, least);
                BigInteger all = choose(60, k);
                BigInteger common = ways.gcd(all);
                yes(need(x, least), k, ways.divide(common).longValueExact(), all.divide(common).longValueExact());
            }
        }
        // All 10 pairs are in a lot of 30, with 10 of the 40 others.
        BigInteger common = choose(40, 10).gcd(choose(60, 30));
        yes(need(rule(x, "d"), 10), 30, choose(40, 10).divide(common).longValueExact(),
            choose(60, 30).divide(common).longValueExact());
        about("the most people who can be there twice");
        NamesByLot most = with("ABCDEFGHIJ", "KLMNOPQRST", "UVWXYZABCD", "EFGHIJKLMN", "OPQRSTUVWX", "YZ");
        need(rule(most, "/d2"), 13);
        yes(most, 52, 1, 1);
        yes(most, 51, 0, 1);
        say(most, "YZ......ss").names(5);
        // All 52 of them and none of the 8 others: 1 of 60 over 8 ways.
        yes(most, 52, 1, 2558620845L);
        wrong(most, 52, 2558620844L, 2558620845L);
        yes(most, 60, 1, 1);
    }

    private static void sheetsByLot() {
        about("t SHEETS: not STRUCK ones that have NAMES, 1 to how many there are");
        NamesByLot six = need(rule(with(".", ".", ".", "s", "m", "u"), "v"), 3);
        bySheets(six, 1, 0, 1);
        bySheets(six, 2, 0, 1);
        bySheets(six, 3, 1, 20);
        bySheets(six, 4, 1, 5);
        bySheets(six, 5, 1, 2);
        bySheets(six, 6, 1, 1);
        bySheets(six, 7, LOST + OUTSIDE, LOST + OUTSIDE);
        strikeOut(six, 5);
        bySheets(six, 6, LOST + OUTSIDE, LOST + OUTSIDE);
        bySheets(six, 5, 1, 1);
        bySheets(six, 3, 1, 10);
        six.names(4);
        bySheets(six, 5, LOST + OUTSIDE, LOST + OUTSIDE);
        bySheets(six, 4, 1, 1);
        bySheets(six, 3, 1, 4);
        bySheets(strikeOut(with("."), 0), 1, LOST + OUTSIDE, LOST + OUTSIDE);
        about("k, v, d of all their NAMES");
        NamesByLot x = need(rule(with("AB", "A", "B", "ss"), "d"), 1);
        bySheets(x, 1, 0, 1);
        bySheets(x, 2, 1, 3);
        bySheets(x, 3, 3, 4);
        bySheets(x, 4, 1, 1);
        bySheets(need(x, 2), 3, 1, 4);
        bySheets(need(rule(x, "k"), 4), 2, 1, 6);
        bySheets(need(rule(x, "N"), 6), 1, 1, 1);
        bySheets(need(rule(with("AA", "s"), "d"), 1), 1, 1, 2);
    }

    private static void wrongAtTheNeed() {
        about("WRONG: NEED or more GOOD ones and it does not say YES, or fewer and it does");
        // Three names, two good people, one of them twice.
        NamesByLot never = rule(with("AAB"), "-01");
        NamesByLot always = rule(with("AAB"), "*89");
        int[] needs = {0, 1, 2, 3, 60};
        int[] neverIsWrong = {1, 1, 1, 0, 0};
        for (int i = 0; i < needs.length; i++) {
            wrong(need(never, needs[i]), 2, neverIsWrong[i], 1);
            wrong(need(always, needs[i]), 2, 1 - neverIsWrong[i], 1);
        }
        wrong(need(rule(with("AAB"), "d"), 1), 2, 2, 3);
        wrong(need(rule(with("A.s"), "*3d"), 3), 3, 0, 1);
        wrong(never, 0, LOST + OUTSIDE, LOST + OUTSIDE);
        wrong(never, 4, LOST + OUTSIDE, LOST + OUTSIDE);
    }

    private static void enoughByDoubt() {
        about("ENOUGH: the least k by which the odds to be WRONG are no more than that");
        // A lot of k has both good ones of 5 in 0, 1, 3, 6, 10 of 10 ways.
        NamesByLot x = need(rule(with("..sss"), "v"), 2);
        int[] doubts = {1000, 999, 901, 900, 899, 701, 700, 699, 401, 400, 399, 1, 0};
        int[] least = {1, 2, 2, 2, 3, 3, 3, 4, 4, 4, 5, 5, 5};
        for (int i = 0; i < doubts.length; i++) {
            due("enough(" + doubts[i] + ")", x.enough(doubts[i]), least[i]);
        }
        // 2 by 3 is a little more than 666 thousandths, 1 by 3 than 333.
        NamesByLot thirds = need(rule(with("..s"), "v"), 2);
        due("enough(666)", thirds.enough(666), 3);
        due("enough(667)", thirds.enough(667), 2);
        NamesByLot third = need(rule(with(".ss"), "v"), 1);
        due("enough(334)", third.enough(334), 2);
        due("enough(333)", third.enough(333), 3);
        due("enough(0)", third.enough(0), 3);
        about("ENOUGH: NONE");
        NamesByLot never = need(rule(with(TEN_GOOD), "-01"), 1);
        due("enough(999)", never.enough(999), NONE);
        due("enough(0)", never.enough(0), NONE);
        due("enough(1000)", never.enough(1000), 1);
        about("ENOUGH: it is seldom WRONG by few, not by more");
        NamesByLot few = need(rule(with("sss"), "-4k"), 3);
        due("enough(0): fewer are GOOD, a lot of 1 says YES", few.enough(0), 2);
        due("enough(0): enough are GOOD, a lot of 1 says YES", need(rule(with("..."), "-4k"), 3).enough(0), 1);
        about("ENOUGH: STATE, THE LIST is empty");
        due("enough(0)", new NamesByLot().enough(0), STATE);
        due("enough(1000)", new NamesByLot().enough(1000), STATE);
        due("enough(0)", strikeOut(with("."), 0).enough(0), STATE);
    }

    private static void enoughOfManyWays() {
        about("ENOUGH, more ways than can be taken a thousand times");
        NamesByLot x = rule(with(TEN_GOOD, TEN_GOOD, TEN_GOOD, TEN_BAD, TEN_BAD, TEN_BAD), "v");
        // With as many bad ones, a lot of 29 has 15 valid ones or more in just a half of all ways.
        due("enough(500)", need(x, 15).enough(500), 29);
        due("enough(499)", x.enough(499), 30);
        for (int needed : new int[] {1, 7, 15, 22, 30}) {
            need(x, needed);
            for (int doubt = 0; doubt <= 1000; doubt += 37) {
                due("enough(" + doubt + "), needed " + needed, x.enough(doubt), enoughOfHalf(needed, doubt));
            }
        }
    }

    /** ENOUGH of 30 good and 30 bad ones, 30 or fewer being needed, valid ones being counted. */
    private static int enoughOfHalf(int needed, int doubt) {
        for (int k = 1; k <= 60; k++) {
            BigInteger all = choose(60, k);
            BigInteger wrong = all.subtract(waysToMany(30, 30, k, needed));
            if (wrong.multiply(BigInteger.valueOf(1000)).compareTo(all.multiply(BigInteger.valueOf(doubt))) <= 0) {
                return k;
            }
        }
        return NONE;
    }

    private static void worthOfADoubleOne() {
        about("WORTH: k 1 to ALL, v, d 0 to 60, whatever the LOT may have");
        NamesByLot x = with("......", "....");
        worth(x, 1, 0, 0, 10, 1);
        worth(x, 10, 60, 60, 1, 1);
        worth(x, 3, 60, 60, 10, 3);
        about("WORTH: what it comes to, less what it comes to with d and 1");
        worth(rule(x, "*dd"), 1, 0, 0, -1, 1);
        worth(x, 1, 0, 60, -121, 1);
        worth(rule(x, "-0d"), 1, 0, 60, 1, 1);
        worth(rule(x, "/1+d1"), 1, 0, 0, 1, 2);
        worth(x, 1, 0, 60, 1, 61 * 62);
        worth(rule(x, "/dN"), 1, 0, 7, -1, 10);
        worth(rule(x, "+v*kN"), 10, 60, 60, 0, 1);
        about("WORTH: one of both is nothing");
        worth(rule(x, "/1d"), 1, 0, 0, LOST + NO, LOST + NO);
        worth(x, 1, 0, 1, 1, 2);
        worth(rule(x, "/1-d5"), 1, 0, 4, LOST + NO, LOST + NO);
        worth(x, 1, 0, 5, LOST + NO, LOST + NO);
        worth(x, 1, 0, 6, 1, 2);
        worth(x, 1, 0, 3, 1, 2);
        worth(rule(x, "/10"), 1, 0, 0, LOST + NO, LOST + NO);
        about("WORTH: THE LIST is empty");
        worth(new NamesByLot(), 1, 0, 0, LOST + OUTSIDE, LOST + OUTSIDE);
        worth(new NamesByLot(), 0, 0, 0, LOST + OUTSIDE, LOST + OUTSIDE);
        worth(strikeOut(with(".."), 0), 1, 0, 0, LOST + OUTSIDE, LOST + OUTSIDE);
    }

    // ---- 3 gatherers, clerks

    private static void gatherersWithoutNames() {
        about("a GATHERER without NAMES");
        NamesByLot x = give(with("s.", "m", ""), 1, 4, 2);
        due("gatherer(0, 0)", x.gatherer(0, 0), 0);
        due("gatherer(0, 1)", x.gatherer(0, 1), 0);
        due("gatherer(2, 0)", x.gatherer(2, 0), 0);
        due("gatherer(4, 0)", x.gatherer(4, 0), 1);
        due("gatherer(4, 1)", x.gatherer(4, 1), 1);
        seems(x, 0, 1, 1);
        shared(x, 0, 1, 1);
        due("suspect()", x.suspect(), 4);
        about("his SHEETS that are not STRUCK");
        strikeOut(x, 1);
        due("gatherer(4, 0)", x.gatherer(4, 0), 0);
        due("gatherer(4, 1)", x.gatherer(4, 1), 0);
        seems(x, 4, 1, 1);
        due("suspect()", x.suspect(), 1);
        about("BAD NAMES on his SHEETS, of so many");
        NamesByLot some = give(with(".s", "AAA.mu", "...."), 2, 2, 3);
        due("gatherer(2, 0)", some.gatherer(2, 0), 8);
        due("gatherer(2, 1)", some.gatherer(2, 1), 3);
        due("gatherer(3, 0)", some.gatherer(3, 0), 4);
        due("gatherer(3, 1)", some.gatherer(3, 1), 0);
        about("all SHEETS are his");
        NamesByLot all = give(with(TEN_BAD, TEN_BAD, TEN_BAD, TEN_BAD, TEN_BAD, TEN_BAD), 4, 4, 4, 4, 4, 4);
        due("gatherer(4, 0)", all.gatherer(4, 0), 60);
        due("gatherer(4, 1)", all.gatherer(4, 1), 60);
        due("gatherer(3, 0)", all.gatherer(3, 0), 0);
        seems(all, 4, 1, 1);
        due("suspect()", all.suspect(), 4);
    }

    private static void seemsAtItsEdges() {
        about("SEEMS: as many BAD ones or more");
        // Of 6 names 3 are bad, 3 are his: none, one or more, two or more, all of them in 20 of 20, 19, 10, 1.
        seems(give(with("...", "sss"), 1), 1, 1, 1);
        seems(give(with("s..", "ss."), 1), 1, 19, 20);
        seems(give(with("ss.", "s.."), 1), 1, 1, 2);
        seems(give(with("sss", "..."), 1), 1, 1, 20);
        about("SEEMS: THE LIST is empty, or all his");
        for (int g = 0; g < 5; g++) {
            seems(new NamesByLot(), g, 1, 1);
        }
        seems(with("s.", "m"), 0, 1, 1);
        about("SEEMS: the most ways that there are");
        String[] sheets = {TEN_BAD, TEN_BAD, TEN_BAD, TEN_GOOD, TEN_GOOD, TEN_GOOD};
        NamesByLot x = give(with(sheets), 1, 1, 1);
        seems(x, 1, 1, 118264581564861424L);
        seems(x, 0, 1, 1);
        shared(x, 1, 1, 59132290782430712L);
        due("suspect()", x.suspect(), 1);
    }

    private static void suspectIsTheFirstOfTheLeast() {
        about("SUSPECT: the first such");
        due("suspect()", give(with("s", "s", "s", "s", "s"), 4, 3, 2, 1, 0).suspect(), 0);
        due("suspect()", give(with("s", "s", "s", "s", "s"), 4, 3, 2, 1, 1).suspect(), 1);
        due("suspect()", give(with("s.", "s.", "s."), 4, 3, 3).suspect(), 3);
        due("suspect()", give(with(".", ".", "."), 4, 3, 2).suspect(), 2);
        about("SUSPECT: with NAMES");
        due("suspect()", give(with("..", "", ".."), 4, 0, 3).suspect(), 3);
        due("suspect()", strikeOut(give(with("s", ".", "."), 0, 3, 4), 0).suspect(), 3);
        about("SUSPECT: the last can be the one");
        due("suspect()", give(with(".", ".", ".", ".", "s"), 0, 1, 2, 3, 4).suspect(), 4);
        about("SUSPECT: NONE, no NAMES");
        due("suspect()", new NamesByLot().suspect(), NONE);
        due("suspect()", strikeOut(give(with("s", "m"), 1, 2), 0, 1).suspect(), NONE);
    }

    private static void suspectOfClosestOdds() {
        about("SUSPECT: odds that differ by little");
        // 6 of 38 names, 1 of 6 bad: 88309 by 131461; 25 names, 4 bad: 168590 by 250971, a millionth's half more.
        NamesByLot x = with(TEN_GOOD, "......ssss", ".....", "s.....", "s......");
        give(x, 0, 0, 0, 4, 3);
        seems(x, 4, 88309, 131461);
        seems(x, 0, 168590, 250971);
        due("suspect()", x.suspect(), 4);
        give(x, 4, 4, 4, 0, 3);
        due("suspect()", x.suspect(), 0);
        // 13 of 49 names, 6 of 17 bad; 27 names, 11 bad; 9 good ones.
        x = give(with(TEN_GOOD, "......ssss", "sssssss", "....ssssss", "...", "........."), 0, 0, 0, 2, 2, 1);
        seems(x, 2, 49507519, 199541629);
        seems(x, 0, 5324610, 21460999);
        due("suspect()", x.suspect(), 2);
        // 3 by 8 and 1 by 2, 3 by 4 and 11 by 14: the one goes on where the other ends.
        due("suspect()", give(with("s", "sm..", "..."), 0, 1, 2).suspect(), 0);
        due("suspect()", give(with("sm..", "s", "..."), 0, 1, 2).suspect(), 1);
        due("suspect()", give(with("s", "smu.", "mu."), 0, 1, 2).suspect(), 0);
        due("suspect()", give(with("smu.", "s", "mu."), 0, 1, 2).suspect(), 1);
        about("SUSPECT: odds whose numbers are too large to be taken crosswise");
        x = give(with(".........s", "........", TEN_BAD, TEN_BAD, "ss........", "......"), 0, 0, 1, 1, 1, 1);
        seems(x, 1, 961930, 14786628311L);
        seems(x, 0, 2112370978, 2112375473);
        due("suspect()", x.suspect(), 1);
        x = give(with("sssss.....", TEN_BAD, TEN_BAD, "........", "ssssssssss", "ssss......"), 0, 0, 0, 0, 1, 1);
        seems(x, 1, 19141523686L, 38887910215L);
        seems(x, 0, 810351219, 1111083149);
        due("suspect()", x.suspect(), 1);
    }

    private static void sharedIs1AtMost() {
        about("SHARED: SEEMS times how many GATHERERS have NAMES, 1 at most");
        NamesByLot x = give(with("s", "."), 0, 1);
        shared(x, 0, 1, 1);
        shared(x, 1, 1, 1);
        shared(x, 4, 1, 1);
        shared(give(with("s", ".."), 0, 1), 0, 2, 3);
        shared(give(with("s", ".", ".", ".", "......"), 0, 1, 2, 3, 4), 0, 1, 2);
        shared(give(with("s", ".", ".", ".", "."), 0, 1, 2, 3, 4), 0, 1, 1);
        shared(give(with("s", ".", ".", "..", ""), 0, 1, 2, 3, 4), 0, 4, 5);
        shared(strikeOut(give(with("s", ".", ".", "..", "."), 0, 1, 2, 3, 4), 4), 0, 4, 5);
        shared(with("s", "."), 0, 1, 1);
        about("SHARED: nobody has NAMES");
        for (int g = 0; g < 5; g++) {
            shared(new NamesByLot(), g, 0, 1);
        }
        shared(strikeOut(with("s"), 0), 0, 0, 1);
    }

    private static void fineWhereItDoesNotPay() {
        about("FINE: the least by which what is saved is not more than tenths by 10 times the FINE and the pay");
        NamesByLot x = new NamesByLot();
        for (int tenths = 0; tenths <= 10; tenths++) {
            for (int pay : new int[] {0, 1, 9, 10, 500, 998, 999}) {
                for (int saved : new int[] {0, 1, 2, 99, 100, 101, 998, 999}) {
                    due("fine(" + pay + ", " + tenths + ", " + saved + ")", new NamesByLot().fine(pay, tenths, saved),
                        leastFine(pay, tenths, saved));
                }
            }
        }
        due("fine(0, 1, 999)", x.fine(0, 1, 999), 9990);
        due("fine(0, 10, 999)", x.fine(0, 10, 999), 999);
        due("fine(999, 10, 999)", x.fine(999, 10, 999), 0);
        due("fine(998, 10, 999)", x.fine(998, 10, 999), 1);
        due("fine(999, 1, 100)", x.fine(999, 1, 100), 1);
        due("fine(999, 1, 99)", x.fine(999, 1, 99), 0);
        about("FINE: none is looked at");
        due("fine(0, 0, 0)", x.fine(0, 0, 0), 0);
        due("fine(999, 0, 0)", x.fine(999, 0, 0), 0);
        due("fine(0, 0, 1)", x.fine(0, 0, 1), NONE);
        due("fine(999, 0, 999)", x.fine(999, 0, 999), NONE);
    }

    private static int leastFine(int pay, int tenths, int saved) {
        for (int fine = 0; fine <= 9999; fine++) {
            if (10 * saved <= tenths * (fine + pay)) {
                return fine;
            }
        }
        return NONE;
    }

    private static void wordIfHeNeverSaysSo() {
        about("WORD: 0 by 1, if he never says so");
        word(with(".s"), 0, 0, 0, 1);
        word(with("s"), 10, 0, 0, 1);
        word(with("."), 0, 10, 0, 1);
        about("WORD: the odds that it is not BAD, if he says so");
        word(with(".s"), 10, 10, 1, 2);
        word(with(".s"), 10, 0, 1, 1);
        word(with(".s"), 0, 10, 0, 1);
        word(with(".s"), 1, 10, 1, 11);
        word(with("."), 1, 0, 1, 1);
        word(with("smu"), 10, 1, 0, 1);
        word(with("AAs"), 10, 10, 2, 3);
        word(with(TEN_GOOD, TEN_GOOD, TEN_GOOD, TEN_GOOD, TEN_GOOD, ".........s"), 9, 10, 531, 541);
        about("WORD: NO, THE LIST is empty");
        word(new NamesByLot(), 10, 10, LOST + NO, LOST + NO);
        word(new NamesByLot(), 0, 0, LOST + NO, LOST + NO);
        word(strikeOut(with("."), 0), 1, 1, LOST + NO, LOST + NO);
    }

    // ---- 4 against it

    private static void strikingOfEverySort() {
        about("STRIKING: by how much GOOD is less without it");
        due("strike(0) of good ones", with(TEN_GOOD, ".").strike(0), 10);
        due("strike(0) of people", with("ABC", "D").strike(0), 3);
        due("strike(0) of one half of a pair", with("A", "A").strike(0), 0);
        due("strike(0) of a pair", with("AA", "s").strike(0), 1);
        due("strike(0) of bad ones", with("smu", ".").strike(0), 0);
        due("strike(5) of no names", with(".").strike(5), 0);
        due("strike(0) of the only one", with("A.s").strike(0), 2);
        due("strike(0), the other half being STRUCK", strikeOut(with("A", "A"), 1).strike(0), 1);
        for (int sheet = 0; sheet < 6; sheet++) {
            due("strike(" + sheet + ") of nothing", new NamesByLot().strike(sheet), 0);
            due("strike(" + sheet + "), it is STRUCK", strikeOut(with("."), sheet).strike(sheet), STATE);
        }
        due("strike(1), though it is what makes it overfull", with("AA", "A").strike(1), STATE);
        due("strike(0), what is overfull being STRUCK", strikeOut(with(".", "AAA"), 1).strike(0), 1);
        due("strike(1), what is overfull being STRUCK", strikeOut(with(".", "AAA"), 1).strike(1), STATE);
    }

    private static void worstIsTheLeastSuch() {
        about("WORST: by which most is lost, the least such");
        due("worst() of nothing", new NamesByLot().worst(), 0);
        due("worst() of the same", with(".", "..", "AB", "..").worst(), 1);
        due("worst() of one", with("", "", "", "", "", ".").worst(), 5);
        due("worst() of bad ones", with("s", "ss", "m").worst(), 0);
        due("worst() of halves", with("AB", "AB", ".").worst(), 2);
        about("WORST: not STRUCK");
        due("worst(), the first STRUCK", strikeOut(with("...", ".", "."), 0).worst(), 1);
        due("worst(), nothing lost by any", strikeOut(with(".", "s"), 0).worst(), 1);
        due("worst(), the last alone", strikeOut(with("..", "..", "..", "..", "..", "s"), 0, 1, 2, 3, 4).worst(), 5);
        about("WORST: NONE, all are STRUCK");
        due("worst()", strikeOut(new NamesByLot(), 0, 1, 2, 3, 4, 5).worst(), NONE);
        due("worst()", strikeOut(with("AAA", "."), 0, 1, 2, 3, 4, 5).worst(), NONE);
        about("WORST: STATE");
        due("worst()", with("AA", "A").worst(), STATE);
        due("worst()", strikeOut(with("AAA", "."), 1, 2, 3, 4, 5).worst(), STATE);
        due("worst()", strikeOut(with("AAA", "."), 0).worst(), 1);
    }

    private static void againstFrom0To30() {
        about("AGAINST: the least number of them, 0 to 30");
        // A number less N is below 0 when so many have come to the one that is there.
        String[] rules = {"-1N", "-2N", "-*57N", "-*66N", "-*49N", "-*56N", "-+*561N", "-+*562N"};
        int[] added = {1, 2, 35, 36, 36, 30, 31, 32};
        for (int i = 0; i < rules.length; i++) {
            NamesByLot x = need(rule(with("."), rules[i]), 0);
            due("against(0, 1) by " + rules[i], x.against(0, 1), added[i] <= 30 ? added[i] : NONE);
        }
        due("against(0, 1): it never says YES", need(rule(with("."), "-01"), 0).against(0, 1), 0);
        due("against(1, 1): it never says YES", need(rule(with("."), "-01"), 0).against(1, 1), 0);
        due("against(1, 1): there is no .", need(rule(with("A"), "-01"), 0).against(1, 1), 0);
        due("against(0, 1): it always says YES", need(rule(with("."), "1"), 0).against(0, 1), NONE);
        due("against(1, 1): it always says YES", need(rule(with("."), "1"), 0).against(1, 1), NONE);
        due("against(0, 1): nothing is no YES", need(rule(with("."), "/1-5N"), 0).against(0, 1), 4);
    }

    private static void againstAll60AtMost() {
        about("AGAINST: ALL 60 at most");
        String[] fifty = {TEN_GOOD, TEN_GOOD, TEN_GOOD, TEN_GOOD, TEN_GOOD};
        due("against(0, 1) by 59 less N", need(rule(with(fifty), "-+*695N"), 0).against(0, 1), 10);
        due("against(1, 1) by 59 less N", need(rule(with(fifty), "-+*695N"), 0).against(1, 1), 10);
        due("against(0, 1) by 60 less N", need(rule(with(fifty), "-+*696N"), 0).against(0, 1), NONE);
        due("against(1, 1) by 60 less N", need(rule(with(fifty), "-+*696N"), 0).against(1, 1), NONE);
        String[] sixty = {TEN_GOOD, TEN_GOOD, TEN_GOOD, TEN_GOOD, TEN_GOOD, TEN_GOOD};
        due("against(0, 60) of 60", need(rule(with(sixty), "-*69N"), 0).against(0, 60), 0);
        due("against(1, 60) of 60", need(rule(with(sixty), "-*69N"), 0).against(1, 60), 0);
        due("against(0, 60) of 60", need(rule(with(sixty), "-N0"), 60).against(0, 60), NONE);
        due("against(1, 60) of 60", need(rule(with(sixty), "-N0"), 60).against(1, 60), NONE);
    }

    private static void againstDots() {
        about("AGAINST: no more than there are .");
        String[] lists = {"s", ".", "..", "A..", "AA..", "...s", "AB..."};
        int[] dots = {0, 1, 2, 2, 2, 3, 3};
        for (int i = 0; i < lists.length; i++) {
            int all = lists[i].length();
            // 9 less N is too little when as many have come as can be doubled, or one more.
            NamesByLot x = rule(with(lists[i]), "-9N");
            int last = dots[i];
            due("against(1, 1) of " + lists[i], need(x, 9 - all - last + 1).against(1, 1), last);
            due("against(1, 1) of " + lists[i], need(x, 9 - all - last).against(1, 1), NONE);
            due("against(0, 1) of " + lists[i], x.against(0, 1), last + 1);
        }
        about("AGAINST: each of these is a person who is there twice then");
        // Without a pair are, of lots of 3, 1 of 1, 2 of 4 with one pair there, 4 of 10 with two.
        due("against(1, 3)", need(rule(with("..."), "-1d"), 1).against(1, 3), 2);
        // Of lots of 4, 1 of 1, 2 of 5.
        due("against(1, 4)", need(rule(with("...."), "-1d"), 1).against(1, 4), 1);
        // Who was there twice before is a pair, too: 2 of 4 lots of 3, 4 of 10.
        due("against(1, 3)", need(rule(with("AA.."), "-1d"), 1).against(1, 3), 1);
        about("AGAINST: of 30 . all can be doubled");
        NamesByLot thirty = need(rule(with(TEN_GOOD, TEN_GOOD, TEN_GOOD), "-1d"), 1);
        for (int k = 1; k <= 30; k++) {
            due("against(1, " + k + ") of 30", thirty.against(1, k), doubledSoThatMostHaveAPair(30, k));
        }
        due("against(1, 1) by 59 less N", need(rule(thirty, "-+*695N"), 0).against(1, 1), 30);
        due("against(1, 1) by 60 less N", need(rule(thirty, "-+*696N"), 0).against(1, 1), NONE);
        about("AGAINST: what is STRUCK has no . on THE LIST");
        NamesByLot struck = need(rule(strikeOut(with("A", "...."), 1), "-9N"), 8);
        due("against(1, 1)", struck.against(1, 1), NONE);
        due("against(0, 1)", struck.against(0, 1), 1);
    }

    /** How many of so many . must be doubled that fewer than a half of the lots of k have no pair. */
    private static int doubledSoThatMostHaveAPair(int dots, int k) {
        for (int doubled = 0; doubled <= dots; doubled++) {
            BigInteger without = BigInteger.ZERO;
            for (int halves = 0; halves <= Math.min(k, doubled); halves++) {
                without = without.add(choose(doubled, halves).shiftLeft(halves).multiply(choose(dots - doubled, k - halves)));
            }
            if (without.shiftLeft(1).compareTo(choose(dots + doubled, k)) < 0) {
                return doubled;
            }
        }
        return NONE;
    }

    private static void againstLessThanAHalf() {
        about("AGAINST: YES is less than a half");
        // As many strange ones as good ones make a half, one more less.
        for (int good = 1; good <= 10; good++) {
            NamesByLot x = need(rule(with(times(".", good)), "v"), 1);
            due("against(0, 1) of " + good, x.against(0, 1), good + 1);
        }
        due("against(0, 1), a half from the start", need(rule(with(".s"), "v"), 1).against(0, 1), 1);
        due("against(0, 1), less from the start", need(rule(with(".ss"), "v"), 1).against(0, 1), 0);
        // As many valid ones as bad ones or more in an odd lot: just a half, however many ways there are.
        String[] even = {TEN_GOOD, TEN_GOOD, "........", TEN_BAD, TEN_BAD, "ssssssss"};
        NamesByLot x = need(rule(with(even), "-*2vk"), 0);
        due("against(0, 27)", x.against(0, 27), 1);
        NamesByLot full = need(rule(with(TEN_GOOD, TEN_GOOD, TEN_GOOD, TEN_BAD, TEN_BAD, TEN_BAD), "-*2vk"), 0);
        due("against(0, 29) of 60", full.against(0, 29), NONE);
        due("against(0, 31) of 60", full.against(0, 31), NONE);
        about("AGAINST: k is 1 to ALL as it is, not with those who come");
        NamesByLot one = need(rule(with(".."), "v"), 2);
        due("against(0, 2)", one.against(0, 2), 1);
        due("against(0, 3)", one.against(0, 3), OUTSIDE);
        due("against(0, 1) of none", new NamesByLot().against(0, 1), OUTSIDE);
        due("against(1, 0) of none", new NamesByLot().against(1, 0), OUTSIDE);
    }

    private static void heap(NamesByLot x, int seed, int k, int valid, int doubles, int yes) {
        due("heap(" + seed + ", " + k + ", 0)", x.heap(seed, k, 0), valid);
        due("heap(" + seed + ", " + k + ", 1)", x.heap(seed, k, 1), doubles);
        due("heap(" + seed + ", " + k + ", 2)", x.heap(seed, k, 2), yes);
    }

    private static void heapOfOneAndOfAll() {
        about("HEAP: k is 1 to ALL");
        String[] sheets = {"ABCDEFGHIJ", "KLMNOPQRST", "UVWXYZABCD", "EFGHIJKLMN", "OPQRSTUVWX", "YZ......ss"};
        NamesByLot all = need(rule(with(sheets), "+vd"), 84);
        due("heap(0, 61, 0)", all.heap(0, 61, 0), OUTSIDE);
        need(rule(all, "-+vd*64"), 60);
        for (int seed : new int[] {0, 1, 4999, 9998, 9999}) {
            heap(all, seed, 60, 58, 26, 1);
        }
        for (int seed : new int[] {0, 9999}) {
            heap(need(rule(with("s"), "v"), 0), seed, 1, 0, 0, 1);
            heap(need(rule(with("A"), "v"), 2), seed, 1, 1, 0, 0);
            heap(need(rule(with("AA"), "d"), 1), seed, 2, 2, 1, 1);
            heap(need(rule(with("AA"), "d"), 1), seed, 1, 1, 0, 0);
        }
        due("heap(0, 1, 0) of none", new NamesByLot().heap(0, 1, 0), OUTSIDE);
        due("heap(0, 0, 0) of none", new NamesByLot().heap(0, 0, 0), OUTSIDE);
    }

    /** Which of n names a heap of one takes. */
    private static int taken(int seed, int n) {
        for (int place = 0; place < n; place++) {
            StringBuilder text = new StringBuilder(times("s", n));
            text.setCharAt(place, '.');
            String[] sheets = new String[6];
            for (int i = 0; i < 6; i++) {
                sheets[i] = text.substring(Math.min(n, i * 10), Math.min(n, i * 10 + 10));
            }
            if (with(sheets).heap(seed, 1, 0) == 1) {
                return place;
            }
        }
        return NONE;
    }

    private static void heapSeedGoesRound() {
        about("HEAP: the seed becomes itself times 75 and 74, left over by 65537");
        // 872 is the last that stays below 65537, 873 becomes 65549 less 65537.
        due("seed 0 of 60", taken(0, 60), 74 % 60);
        due("seed 872 of 60", taken(872, 60), 65474 % 60);
        due("seed 873 of 60", taken(873, 60), 12);
        due("seed 9999 of 60", taken(9999, 60), 29092 % 60);
        due("seed 7 of 1", taken(7, 1), 0);
        about("HEAP: NAMES as they stand, SHEET by SHEET; of those that are left");
        // 873 becomes 12, 974, 73124 - 65537 = 7587, 569099 - 8 * 65537 = 44803, 3360299 - 51 * 65537 = 17912,
        // 1343474 - 20 * 65537 = 32734; left over by 7, 6, 5, 4, 3, 2 these are 5, 2, 2, 3, 2, 0.
        int[] taken = {5, 2, 3, 6, 4, 0, 1};
        for (int i = 0; i < taken.length; i++) {
            StringBuilder text = new StringBuilder("sssssss");
            text.setCharAt(taken[i], '.');
            NamesByLot x = with(text.substring(0, 2), "..", text.substring(2, 4), "", text.substring(4));
            need(rule(strikeOut(x, 1), "v"), 1);
            for (int k = 1; k <= taken.length; k++) {
                heap(x, 873, k, i < k ? 1 : 0, 0, i < k ? 1 : 0);
            }
        }
        NamesByLot pair = need(rule(with("sAssssA"), "d"), 1);
        heap(pair, 873, 4, 1, 0, 0);
        heap(pair, 873, 6, 1, 0, 0);
        heap(pair, 873, 7, 2, 1, 1);
    }

    private static void heapSaysYes() {
        about("HEAP: whether THE RULE says YES, by N, k, v, d");
        NamesByLot x = with("A.", "As");
        heap(need(rule(x, "v"), 3), 5, 4, 3, 1, 1);
        heap(need(x, 4), 5, 4, 3, 1, 0);
        heap(need(rule(x, "d"), 1), 5, 4, 3, 1, 1);
        heap(need(rule(x, "/1-kN"), 0), 5, 4, 3, 1, 0);
        NamesByLot good = need(rule(with("...."), "-Nk"), 2);
        heap(good, 5, 1, 1, 0, 1);
        heap(good, 5, 2, 2, 0, 1);
        heap(good, 5, 3, 3, 0, 0);
    }

    private static void imagesAreTwo() {
        about("an IMAGE that was not kept can not be restored");
        for (int n = 0; n <= 1; n++) {
            NamesByLot x = new NamesByLot();
            due("restore(" + n + ")", x.restore(n), STATE);
            due("image(" + (1 - n) + ")", x.image(1 - n), 1);
            due("restore(" + n + ")", x.restore(n), STATE);
            due("restore(" + (1 - n) + ")", x.restore(1 - n), 1);
            due("restore(" + n + ")", x.restore(n), STATE);
            due("image(" + n + ")", x.image(n), 1);
            due("restore(" + n + ")", x.restore(n), 1);
            due("restore(" + n + ") again", x.restore(n), 1);
        }
        about("IMAGES 0 and 1 are kept apart, the last that was kept counts");
        NamesByLot x = need(with("."), 1);
        x.image(0);
        need(say(x, ".."), 2).names(0);
        x.image(1);
        need(say(x, "..."), 3).names(0);
        x.restore(0);
        due("need, names of image 0", 10 * x.told(1) + x.told(20), 11);
        x.restore(1);
        due("need, names of image 1", 10 * x.told(1) + x.told(20), 22);
        x.image(0);
        need(x, 9).restore(0);
        due("need, names of image 0 kept again", 10 * x.told(1) + x.told(20), 22);
        about("a new object's IMAGE");
        NamesByLot empty = new NamesByLot();
        empty.image(1);
        say(empty, "ABC").names(0);
        strikeOut(give(need(rule(empty, "3"), 3), 2), 5);
        due("restore(1)", empty.restore(1), 1);
        due("count(0)", empty.count(0), 0);
        due("told(1)", empty.told(1), 30);
        due("told(3)", empty.told(3), 0);
        due("told(2)", empty.told(2), 11);
        due("told(10)", empty.told(10), 0);
    }

    private static void imagesKeepAllButSigns() {
        about("all but signs is kept");
        NamesByLot x = say(new NamesByLot(), "....");
        x.image(0);
        due("told(0) after image", x.told(0), 4);
        x.say('.');
        x.restore(0);
        due("told(0) after restore", x.told(0), 5);
        x.wipe();
        x.restore(0);
        due("told(0) after restore", x.told(0), 0);
        about("it is as it was when it was kept");
        NamesByLot all = need(rule(with("A", "BB", "", "smu", ".", TEN_GOOD), "+1+1+1+1+11"), 60);
        strikeOut(give(all, 4, 3, 2, 1, 0, 4), 0, 5);
        all.image(0);
        for (int sheet = 0; sheet < 6; sheet++) {
            say(all, "ZYX".substring(sheet / 2)).names(sheet);
            all.set(sheet, 0, 3);
            all.set(sheet, 1, sheet % 2);
        }
        need(rule(all, "0"), 0);
        due("restore(0)", all.restore(0), 1);
        int[] told = {0, 60, 11, 33};
        for (int what = 0; what <= 3; what++) {
            due("told(" + what + ")", all.told(what), told[what]);
        }
        for (int sheet = 0; sheet < 6; sheet++) {
            due("told(1" + sheet + ")", all.told(10 + sheet), new int[] {4, 3, 2, 1, 0, 4}[sheet]);
            due("told(2" + sheet + ")", all.told(20 + sheet), new int[] {1, 2, 0, 3, 1, 10}[sheet]);
        }
        due("sheet(0, 0)", all.sheet(0, 0), 'A');
        due("sheet(1, 1)", all.sheet(1, 1), 'B');
        due("sheet(3, 2)", all.sheet(3, 2), 'u');
        due("sheet(5, 9)", all.sheet(5, 9), '.');
        comes(all, 0, 0, 0, 0, 6, 1);
        count(all, 6, 3, 1, 2);
    }

    private static void toldAtItsEdges() {
        about("STRUCK SHEETS, as bits");
        for (int bits = 0; bits < 64; bits++) {
            NamesByLot x = new NamesByLot();
            for (int sheet = 0; sheet < 6; sheet++) {
                x.set(sheet, 1, bits >> sheet & 1);
            }
            due("told(3)", x.told(3), bits);
        }
        about("signs, NEED, signs of THE RULE at their edges");
        due("told(0)", say(new NamesByLot(), times("!", 17)).told(0), 16);
        due("told(1)", need(new NamesByLot(), 60).told(1), 60);
        due("told(1)", need(new NamesByLot(), 0).told(1), 0);
        due("told(2)", rule(new NamesByLot(), "8").told(2), 1);
        due("told(25)", with("", "", "", "", "", TEN_GOOD).told(25), 10);
    }
}
