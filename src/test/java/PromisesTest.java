/** Every promise by numbers that were worked out by hand: ordinary inputs, edges, wrong inputs. */
public final class PromisesTest extends Dues {
    public static void main(String[] args) {
        promise1();
        promise2();
        promise3();
        promise4();
        promise5();
        promise6();
        promise7();
        promise8();
        promise9();
        promise10();
        promise11();
        promise12();
        promise13();
        promise14();
        promise15();
        promise16();
        promise17();
        promise18();
        promise19();
        promise20();
        promise21();
        promise22();
        promise23();
        promise24();
        promise25();
        promise26();
        promise27();
        promise28();
        promise29();
        end("all promises hold");
    }

    private static void promise1() {
        about("promise 1");
        NamesByLot x = new NamesByLot();
        due("told(0)", x.told(0), 0);
        due("told(1)", x.told(1), 30);
        due("told(2)", x.told(2), 11);
        due("told(3)", x.told(3), 0);
        for (int sheet = 0; sheet < 6; sheet++) {
            due("told of gatherer", x.told(10 + sheet), 0);
            due("told of names", x.told(20 + sheet), 0);
            due("sheet", x.sheet(sheet, -1), 0);
        }
        due("count(0)", x.count(0), 0);
        due("count(1)", x.count(1), 0);
        due("count(2)", x.count(2), 0);
        due("count(3)", x.count(3), 0);
        // -/*Nvk/*dNk with N 10, k 5, v 4, d 1: 8 less 2.
        comes(x, 10, 5, 4, 1, 6, 1);
        comes(x, 10, 4, 3, 1, 5, 1);
        comes(x, 7, 3, 2, 0, 14, 3);
        due("restore(0)", x.restore(0), STATE);
        due("restore(1)", x.restore(1), STATE);
    }

    private static void promise2() {
        about("promise 2");
        NamesByLot x = new NamesByLot();
        due("say(32)", x.say(32), OUTSIDE);
        due("say(127)", x.say(127), OUTSIDE);
        due("say(-1)", x.say(-1), OUTSIDE);
        due("say(302)", x.say(302), OUTSIDE);
        due("say(33)", x.say(33), 1);
        due("say(126)", x.say(126), 2);
        for (int n = 3; n <= 16; n++) {
            due("say(46)", x.say(46), n);
        }
        due("say(46)", x.say(46), FULL);
        due("say(32)", x.say(32), OUTSIDE);
        due("told(0)", x.told(0), 16);
    }

    private static void promise3() {
        about("promise 3");
        NamesByLot x = new NamesByLot();
        due("wipe()", x.wipe(), 0);
        due("wipe()", say(x, "abc").wipe(), 3);
        due("wipe()", x.wipe(), 0);
        due("say(46)", x.say(46), 1);
        due("wipe()", say(x, "...............").wipe(), 16);
        due("told(0)", x.told(0), 0);
    }

    private static void fault(String text, int asNames, int asRule) {
        NamesByLot x = say(new NamesByLot(), text);
        due("fault(0) of " + text, x.fault(0), asNames);
        due("fault(1) of " + text, x.fault(1), asRule);
        due("told(0) after it", x.told(0), text.length());
    }

    private static void promise4() {
        about("promise 4");
        fault("", NONE, 0);
        fault(".smuAZ", NONE, 0);
        fault("AAA", NONE, 0);
        fault("..a", 2, 0);
        fault("N", NONE, NONE);
        fault("k", 0, NONE);
        fault("v", 0, NONE);
        fault("d", 0, NONE);
        fault("n", 0, 0);
        fault("K", NONE, 0);
        fault("@", 0, 0);
        fault("[", 0, 0);
        fault("0", 0, NONE);
        fault("9", 0, NONE);
        fault(":", 0, 0);
        fault(",", 0, 0);
        fault("Nk", 1, 1);
        fault("NZ", NONE, 1);
        fault("+N", 0, 2);
        fault("-Nk", 0, NONE);
        fault("*Nx", 0, 2);
        fault("/1/23", 0, NONE);
        fault("..........", NONE, 0);
        fault("...........", 10, 0);
        fault("....!......", 4, 0);
        fault("..........!", 10, 0);
        fault("+++++NNNNNN", 0, NONE);
        fault("+++++NNNNNNN", 0, 11);
        fault("++++++", 0, 6);
        fault("+++++++++++", 0, 11);
        fault("++++++++++++", 0, 11);
        fault("-/*Nvk/*dNk", 0, NONE);
        NamesByLot x = new NamesByLot();
        due("fault(2)", x.fault(2), OUTSIDE);
        due("fault(-1)", x.fault(-1), OUTSIDE);
    }

    private static void promise5() {
        about("promise 5");
        NamesByLot x = new NamesByLot();
        due("names(5)", say(x, ".sA").names(5), 3);
        due("told(0)", x.told(0), 0);
        due("sheet(5, 0)", x.sheet(5, 0), '.');
        due("sheet(5, 1)", x.sheet(5, 1), 's');
        due("sheet(5, 2)", x.sheet(5, 2), 'A');
        due("names(5)", say(x, "m").names(5), 1);
        due("sheet(5, -1)", x.sheet(5, -1), 1);
        due("sheet(5, 0)", x.sheet(5, 0), 'm');
        due("sheet(5, 1)", x.sheet(5, 1), NONE);
        due("names(5)", x.names(5), 0);
        due("sheet(5, -1)", x.sheet(5, -1), 0);
        due("names(6)", x.names(6), UNKNOWN);
        due("names(-1)", x.names(-1), UNKNOWN);
        say(x, "u");
        due("names(0)", x.names(0), 1);
        say(x, ".x");
        due("names(6)", x.names(6), UNKNOWN);
        due("names(0)", x.names(0), NO);
        due("told(0)", x.told(0), 2);
        due("sheet(0, 0)", x.sheet(0, 0), 'u');
        x.wipe();
        due("names(1)", say(x, "..........").names(1), 10);
        say(x, "...........");
        due("names(1)", x.names(1), NO);
        due("told(0)", x.told(0), 11);
        due("sheet(2, -1)", x.sheet(2, -1), 0);
    }

    private static void promise6() {
        about("promise 6");
        NamesByLot x = new NamesByLot();
        due("set(0, 0, 4)", x.set(0, 0, 4), 0);
        due("set(0, 0, 2)", x.set(0, 0, 2), 4);
        due("told(10)", x.told(10), 2);
        due("set(5, 1, 1)", x.set(5, 1, 1), 0);
        due("set(5, 1, 1)", x.set(5, 1, 1), 1);
        due("told(3)", x.told(3), 32);
        due("set(5, 1, 0)", x.set(5, 1, 0), 1);
        due("told(3)", x.told(3), 0);
        due("set(6, 2, 9)", x.set(6, 2, 9), UNKNOWN);
        due("set(-1, 0, 0)", x.set(-1, 0, 0), UNKNOWN);
        due("set(0, 2, 0)", x.set(0, 2, 0), OUTSIDE);
        due("set(0, -1, 0)", x.set(0, -1, 0), OUTSIDE);
        due("set(0, 0, 5)", x.set(0, 0, 5), OUTSIDE);
        due("set(0, 0, -1)", x.set(0, 0, -1), OUTSIDE);
        due("set(0, 1, 2)", x.set(0, 1, 2), OUTSIDE);
        due("set(0, 1, -1)", x.set(0, 1, -1), OUTSIDE);
        due("told(10)", x.told(10), 2);
        due("told(3)", x.told(3), 0);
    }

    private static void promise7() {
        about("promise 7");
        NamesByLot x = with("", "sZ.");
        x.set(1, 1, 1);
        due("sheet(1, -1)", x.sheet(1, -1), 3);
        due("sheet(1, 0)", x.sheet(1, 0), 's');
        due("sheet(1, 1)", x.sheet(1, 1), 'Z');
        due("sheet(1, 2)", x.sheet(1, 2), '.');
        due("sheet(1, 3)", x.sheet(1, 3), NONE);
        due("sheet(1, -2)", x.sheet(1, -2), NONE);
        due("sheet(0, 0)", x.sheet(0, 0), NONE);
        due("sheet(0, 10)", x.sheet(0, 10), NONE);
        due("sheet(5, -1)", x.sheet(5, -1), 0);
        due("sheet(6, -1)", x.sheet(6, -1), UNKNOWN);
        due("sheet(-1, -2)", x.sheet(-1, -2), UNKNOWN);
    }

    private static void promise8() {
        about("promise 8");
        NamesByLot x = with(".AsB", "uAm.", "C");
        due("count(0)", x.count(0), 9);
        due("count(1)", x.count(1), 3);
        due("count(2)", x.count(2), 1);
        due("count(3)", x.count(3), 5);
        due("count(4)", x.count(4), OUTSIDE);
        due("count(-1)", x.count(-1), OUTSIDE);
        x.set(1, 1, 1);
        due("count(0)", x.count(0), 5);
        due("count(1)", x.count(1), 1);
        due("count(2)", x.count(2), 0);
        due("count(3)", x.count(3), 4);
        x.set(1, 1, 0);
        say(x, "sA").names(5);
        due("count(0)", x.count(0), 11);
        due("count(1)", x.count(1), 4);
        due("count(2)", x.count(2), STATE);
        due("count(3)", x.count(3), STATE);
        due("count(4)", x.count(4), OUTSIDE);
        due("count(3) of AAA", with("AAA").count(3), STATE);
        due("count(2) of AA", with("AA").count(2), 1);
        due("count(3) of AA", with("AA").count(3), 1);
    }

    private static void promise9() {
        about("promise 9");
        NamesByLot x = new NamesByLot();
        due("need(0)", x.need(0), 30);
        due("need(60)", x.need(60), 0);
        due("need(61)", x.need(61), OUTSIDE);
        due("need(-1)", x.need(-1), OUTSIDE);
        due("need(7)", x.need(7), 60);
        due("told(1)", x.told(1), 7);
    }

    private static void promise10() {
        about("promise 10");
        NamesByLot x = new NamesByLot();
        due("rule()", x.rule(), NO);
        say(x, "+N");
        due("rule()", x.rule(), NO);
        due("told(0)", x.told(0), 2);
        due("told(2)", x.told(2), 11);
        due("rule()", say(x, "3").rule(), 3);
        due("told(0)", x.told(0), 0);
        due("told(2)", x.told(2), 3);
        comes(x, 8, 0, 0, 0, 11, 1);
        due("rule()", say(x, "-----987654").rule(), 11);
        // ((((9-8)-7)-6)-5)-4
        comes(x, 0, 0, 0, 0, -21, 1);
        due("rule()", say(x, "d").rule(), 1);
        comes(x, 0, 0, 0, 9, 9, 1);
        say(x, "+++++NNNNNNN");
        due("rule()", x.rule(), NO);
        comes(x, 0, 0, 0, 9, 9, 1);
    }

    private static void promise11() {
        about("promise 11");
        NamesByLot x = new NamesByLot();
        comes(rule(x, "N"), 60, 1, 2, 3, 60, 1);
        comes(rule(x, "k"), 60, 1, 2, 3, 1, 1);
        comes(rule(x, "v"), 60, 1, 2, 3, 2, 1);
        comes(rule(x, "d"), 60, 1, 2, 3, 3, 1);
        comes(rule(x, "7"), 60, 1, 2, 3, 7, 1);
        comes(rule(x, "+/12/13"), 0, 0, 0, 0, 5, 6);
        comes(rule(x, "-/13/12"), 0, 0, 0, 0, -1, 6);
        comes(rule(x, "*/46/34"), 0, 0, 0, 0, 1, 2);
        comes(rule(x, "/-25-47"), 0, 0, 0, 0, 1, 1);
        comes(rule(x, "/1-46"), 0, 0, 0, 0, -1, 2);
        comes(rule(x, "-NN"), 60, 0, 0, 0, 0, 1);
        comes(rule(x, "*****NNNNNN"), 60, 0, 0, 0, 46656000000L, 1);
        comes(rule(x, "/////1NNNNN"), 60, 0, 0, 0, 1, 777600000L);
        comes(rule(x, "/Nk"), 6, 0, 1, 1, LOST + NO, LOST + NO);
        comes(rule(x, "*0/10"), 6, 0, 1, 1, LOST + NO, LOST + NO);
        comes(rule(x, "/1/0N"), 6, 0, 1, 1, LOST + NO, LOST + NO);
        comes(rule(x, "/0N"), 6, 0, 1, 1, 0, 1);
        comes(x, 61, 0, 0, 0, LOST + OUTSIDE, LOST + OUTSIDE);
        comes(x, 0, 61, 0, 0, LOST + OUTSIDE, LOST + OUTSIDE);
        comes(x, 0, 0, 61, 0, LOST + OUTSIDE, LOST + OUTSIDE);
        comes(x, 0, 0, 0, 61, LOST + OUTSIDE, LOST + OUTSIDE);
        comes(x, -1, 0, 0, 0, LOST + OUTSIDE, LOST + OUTSIDE);
        comes(x, 0, -1, 0, 0, LOST + OUTSIDE, LOST + OUTSIDE);
        comes(x, 0, 0, -1, 0, LOST + OUTSIDE, LOST + OUTSIDE);
        comes(x, 0, 0, 0, -1, LOST + OUTSIDE, LOST + OUTSIDE);
        due("comes(0, 0, 0, 0, 2)", x.comes(0, 0, 0, 0, 2), LOST + OUTSIDE);
        due("comes(0, 0, 0, 0, -1)", x.comes(0, 0, 0, 0, -1), LOST + OUTSIDE);
        due("comes(0, 0, 0, 0, 0)", x.comes(0, 0, 0, 0, 0), LOST + NO);
        comes(rule(x, "+N+k+vd"), 60, 60, 60, 60, 240, 1);
    }

    private static void promise12() {
        about("promise 12");
        // 5 names, 3 valid; v of a lot of 2 is 2 in 3 of 10 ways.
        NamesByLot x = need(rule(with(".A", "sBm"), "v"), 2);
        yes(x, 1, 0, 1);
        yes(x, 2, 3, 10);
        yes(x, 3, 7, 10);
        yes(x, 4, 1, 1);
        // Two pairs: a lot of 2 is a pair in 2 of 6 ways.
        NamesByLot pairs = need(rule(with("AB", "AB"), "d"), 1);
        yes(pairs, 1, 0, 1);
        yes(pairs, 2, 1, 3);
        yes(pairs, 3, 1, 1);
        yes(need(pairs, 2), 3, 0, 1);
        yes(pairs, 4, 1, 1);
        // The rule comes to exactly the need, and to a half less.
        yes(need(rule(x, "/v2"), 1), 2, 3, 10);
        yes(need(rule(x, "-v/12"), 2), 2, 0, 1);
        yes(need(rule(x, "-v/12"), 2), 3, 1, 10);
        // Nothing is no yes, however low the need.
        yes(need(rule(x, "/10"), 0), 1, 0, 1);
        yes(need(rule(x, "-01"), 0), 1, 0, 1);
        yes(need(rule(x, "0"), 0), 1, 1, 1);
        yes(x, 0, LOST + OUTSIDE, LOST + OUTSIDE);
        yes(x, 6, LOST + OUTSIDE, LOST + OUTSIDE);
        due("yes(1, 2)", x.yes(1, 2), LOST + OUTSIDE);
        due("yes(1, -1)", x.yes(1, -1), LOST + OUTSIDE);
        yes(new NamesByLot(), 1, LOST + OUTSIDE, LOST + OUTSIDE);
        NamesByLot over = with("AAA");
        yes(over, 1, LOST + STATE, LOST + STATE);
        yes(over, 3, LOST + STATE, LOST + STATE);
        yes(over, 4, LOST + OUTSIDE, LOST + OUTSIDE);
        due("yes(1, 2)", over.yes(1, 2), LOST + OUTSIDE);
        // 60 names, 30 valid: a lot of 30 has all of them in one of 60 over 30 ways.
        NamesByLot full = with("..........", "..........", "..........", "ssssssssss", "mmmmmmmmmm", "uuuuuuuuuu");
        yes(need(rule(full, "v"), 30), 30, 1, 118264581564861424L);
        yes(need(full, 0), 60, 1, 1);
    }

    private static void promise13() {
        about("promise 13");
        NamesByLot x = need(rule(with("A.", "As", "", "mu", "."), "v"), 3);
        // Of the four sheets 0, 1, 3, 4 two: valid 3 by 0 and 1, 0 and 4.
        bySheets(x, 1, 0, 1);
        bySheets(x, 2, 1, 3);
        bySheets(x, 3, 3, 4);
        bySheets(x, 4, 1, 1);
        bySheets(x, 0, LOST + OUTSIDE, LOST + OUTSIDE);
        bySheets(x, 5, LOST + OUTSIDE, LOST + OUTSIDE);
        due("bySheets(1, 2)", x.bySheets(1, 2), LOST + OUTSIDE);
        due("bySheets(1, -1)", x.bySheets(1, -1), LOST + OUTSIDE);
        need(rule(x, "d"), 1);
        bySheets(x, 1, 0, 1);
        bySheets(x, 2, 1, 6);
        need(rule(x, "k"), 4);
        bySheets(x, 2, 1, 2);
        need(rule(x, "N"), 7);
        bySheets(x, 1, 1, 1);
        x.set(0, 1, 1);
        bySheets(x, 1, 0, 1);
        bySheets(x, 4, LOST + OUTSIDE, LOST + OUTSIDE);
        bySheets(new NamesByLot(), 1, LOST + OUTSIDE, LOST + OUTSIDE);
        NamesByLot over = with("AA", "A");
        bySheets(over, 1, LOST + STATE, LOST + STATE);
        bySheets(over, 3, LOST + OUTSIDE, LOST + OUTSIDE);
    }

    private static void promise14() {
        about("promise 14");
        NamesByLot x = need(rule(with(".A", "sBm"), "v"), 2);
        wrong(x, 1, 1, 1);
        wrong(x, 2, 7, 10);
        wrong(x, 3, 3, 10);
        wrong(x, 4, 0, 1);
        // GOOD is 3: a need of 3 is met, a need of 4 is not.
        wrong(need(x, 3), 3, 9, 10);
        wrong(need(rule(x, "+1v"), 4), 3, 1, 10);
        wrong(x, 0, LOST + OUTSIDE, LOST + OUTSIDE);
        wrong(x, 6, LOST + OUTSIDE, LOST + OUTSIDE);
        due("wrong(1, 2)", x.wrong(1, 2), LOST + OUTSIDE);
        NamesByLot over = with("AAA");
        wrong(over, 3, LOST + STATE, LOST + STATE);
        wrong(over, 4, LOST + OUTSIDE, LOST + OUTSIDE);
    }

    private static void promise15() {
        about("promise 15");
        NamesByLot x = need(rule(with(".A", "sBm"), "v"), 2);
        due("enough(1000)", x.enough(1000), 1);
        due("enough(999)", x.enough(999), 2);
        due("enough(700)", x.enough(700), 2);
        due("enough(699)", x.enough(699), 3);
        due("enough(300)", x.enough(300), 3);
        due("enough(299)", x.enough(299), 4);
        due("enough(0)", x.enough(0), 4);
        due("enough(1001)", x.enough(1001), OUTSIDE);
        due("enough(-1)", x.enough(-1), OUTSIDE);
        need(rule(x, "0"), 2);
        due("enough(999)", x.enough(999), NONE);
        due("enough(1000)", x.enough(1000), 1);
        // All must be looked at: v is 3 for certain only then.
        NamesByLot last = need(rule(with("...s"), "v"), 3);
        due("enough(0)", last.enough(0), 4);
        due("enough(749)", last.enough(749), 4);
        due("enough(750)", last.enough(750), 3);
        NamesByLot over = with("AAA");
        due("enough(5)", over.enough(5), STATE);
        due("enough(1001)", over.enough(1001), OUTSIDE);
        due("enough(5)", new NamesByLot().enough(5), STATE);
        due("enough(1001)", new NamesByLot().enough(1001), OUTSIDE);
    }

    private static void promise16() {
        about("promise 16");
        NamesByLot x = with("......", "....");
        // N by k is what a double one costs at first.
        worth(x, 4, 3, 0, 5, 2);
        worth(x, 10, 0, 60, 1, 1);
        worth(rule(x, "d"), 1, 0, 5, -1, 1);
        worth(rule(x, "v"), 1, 60, 5, 0, 1);
        worth(rule(x, "/Nd"), 1, 0, 2, 5, 3);
        worth(x, 1, 0, 0, LOST + NO, LOST + NO);
        worth(rule(x, "/N-d3"), 1, 0, 2, LOST + NO, LOST + NO);
        worth(x, 1, 0, 4, 5, 1);
        worth(x, 0, 0, 0, LOST + OUTSIDE, LOST + OUTSIDE);
        worth(x, 11, 0, 0, LOST + OUTSIDE, LOST + OUTSIDE);
        worth(x, 1, 61, 0, LOST + OUTSIDE, LOST + OUTSIDE);
        worth(x, 1, -1, 0, LOST + OUTSIDE, LOST + OUTSIDE);
        worth(x, 1, 0, 61, LOST + OUTSIDE, LOST + OUTSIDE);
        worth(x, 1, 0, -1, LOST + OUTSIDE, LOST + OUTSIDE);
        due("worth(1, 0, 4, 2)", x.worth(1, 0, 4, 2), LOST + OUTSIDE);
        worth(new NamesByLot(), 1, 0, 0, LOST + OUTSIDE, LOST + OUTSIDE);
        // It is no matter that the list is overfull.
        worth(with("AAA"), 2, 1, 0, 3, 2);
        // The lower numbers at their largest.
        NamesByLot full = with("..........", "..........", "..........", "..........", "..........", "..........");
        worth(rule(full, "/////1vvvvd"), 1, 59, 59, 1, 59L * 59 * 59 * 59 * 59 * 60);
        worth(rule(full, "/////1ddddd"), 1, 59, 58, 714924299L - 656356768L, 714924299L * 656356768L);
    }

    private static void promise17() {
        about("promise 17");
        NamesByLot x = with(".s", "mu", "A");
        x.set(1, 0, 4);
        x.set(2, 0, 4);
        due("gatherer(0, 0)", x.gatherer(0, 0), 2);
        due("gatherer(0, 1)", x.gatherer(0, 1), 1);
        due("gatherer(4, 0)", x.gatherer(4, 0), 3);
        due("gatherer(4, 1)", x.gatherer(4, 1), 2);
        due("gatherer(1, 0)", x.gatherer(1, 0), 0);
        x.set(1, 1, 1);
        due("gatherer(4, 0)", x.gatherer(4, 0), 1);
        due("gatherer(4, 1)", x.gatherer(4, 1), 0);
        due("gatherer(5, 2)", x.gatherer(5, 2), UNKNOWN);
        due("gatherer(-1, 0)", x.gatherer(-1, 0), UNKNOWN);
        due("gatherer(0, 2)", x.gatherer(0, 2), OUTSIDE);
        due("gatherer(0, -1)", x.gatherer(0, -1), OUTSIDE);
        due("gatherer(0, 0)", with("AAA").gatherer(0, 0), 3);
    }

    private static void promise18() {
        about("promise 18");
        // 5 names, 2 bad, both on the sheet of gatherer 1 who has 3: 3 of 10 ways.
        NamesByLot x = with("..", "sm.");
        x.set(1, 0, 1);
        seems(x, 1, 3, 10);
        seems(x, 0, 1, 1);
        seems(x, 2, 1, 1);
        // 1 bad of 2, 2 bad of 4 in all: 5 of 6 ways have one or more.
        NamesByLot even = with("s.", "A", "A", "m");
        even.set(0, 0, 3);
        seems(with("s.", "Am"), 0, 1, 1);
        due("gatherer(3, 0)", even.gatherer(3, 0), 2);
        NamesByLot four = with("s.", "Am");
        four.set(0, 0, 3);
        seems(four, 3, 5, 6);
        four.set(1, 1, 1);
        seems(four, 3, 1, 1);
        seems(with("AAA", "s"), 0, 1, 1);
        seems(new NamesByLot(), 4, 1, 1);
        seems(x, 5, LOST + UNKNOWN, LOST + UNKNOWN);
        seems(x, -1, LOST + UNKNOWN, LOST + UNKNOWN);
        due("seems(5, 2)", x.seems(5, 2), LOST + UNKNOWN);
        due("seems(0, 2)", x.seems(0, 2), LOST + OUTSIDE);
        due("seems(0, -1)", x.seems(0, -1), LOST + OUTSIDE);
    }

    /** Sheet by sheet a gatherer of his own. */
    private static void suspect(int want, String... sheets) {
        NamesByLot x = with(sheets);
        for (int i = 0; i < sheets.length; i++) {
            x.set(i, 0, i);
        }
        due("suspect()", x.suspect(), want);
    }

    private static void promise19() {
        about("promise 19");
        NamesByLot x = with("..", "sm.");
        x.set(1, 0, 1);
        due("suspect()", x.suspect(), 1);
        x.set(1, 0, 0);
        due("suspect()", x.suspect(), 0);
        x.set(0, 0, 4);
        x.set(1, 0, 4);
        due("suspect()", x.suspect(), 4);
        // The same odds: the first of them.
        NamesByLot same = with("s.", "s.", "s.");
        same.set(0, 0, 3);
        same.set(1, 0, 2);
        same.set(2, 0, 4);
        due("suspect()", same.suspect(), 2);
        same.set(1, 1, 1);
        due("suspect()", same.suspect(), 3);
        // 3 by 8 is less than 1 by 2, 3 by 4 less than 11 by 14.
        suspect(0, "s", "sm..", "...");
        suspect(1, "sm..", "s", "...");
        suspect(0, "s", "smu.", "mu.");
        suspect(1, "smu.", "s", "mu.");
        due("suspect()", new NamesByLot().suspect(), NONE);
        NamesByLot struck = with("s");
        struck.set(0, 1, 1);
        due("suspect()", struck.suspect(), NONE);
        due("suspect()", with("AAA").suspect(), 0);
    }

    private static void promise20() {
        about("promise 20");
        NamesByLot x = with("..", "sm.");
        x.set(1, 0, 1);
        shared(x, 1, 3, 5);
        shared(x, 0, 1, 1);
        shared(x, 2, 1, 1);
        say(x, "......").names(2);
        x.set(2, 0, 2);
        // 2 of 11 bad, both in a lot of 3: 9 of 165 ways, three gatherers.
        shared(x, 1, 9, 55);
        x.set(2, 1, 1);
        shared(x, 1, 3, 5);
        say(x, "A").names(3);
        x.set(3, 0, 4);
        // 2 of 6 bad, both in a lot of 3: 4 of 20 ways; one name makes a gatherer, too.
        shared(x, 1, 3, 5);
        x.set(0, 1, 1);
        // 2 of 4: 2 of 4 ways, two gatherers.
        shared(x, 1, 1, 1);
        shared(x, 5, LOST + UNKNOWN, LOST + UNKNOWN);
        shared(x, -1, LOST + UNKNOWN, LOST + UNKNOWN);
        due("shared(5, 2)", x.shared(5, 2), LOST + UNKNOWN);
        due("shared(0, 2)", x.shared(0, 2), LOST + OUTSIDE);
        shared(new NamesByLot(), 3, 0, 1);
        shared(with("AAA"), 0, 1, 1);
    }

    private static void promise21() {
        about("promise 21");
        NamesByLot x = new NamesByLot();
        due("fine(0, 10, 7)", x.fine(0, 10, 7), 7);
        due("fine(7, 10, 7)", x.fine(7, 10, 7), 0);
        due("fine(8, 10, 7)", x.fine(8, 10, 7), 0);
        due("fine(0, 7, 5)", x.fine(0, 7, 5), 8);
        due("fine(2, 7, 5)", x.fine(2, 7, 5), 6);
        due("fine(0, 1, 999)", x.fine(0, 1, 999), 9990);
        due("fine(999, 10, 0)", x.fine(999, 10, 0), 0);
        due("fine(999, 0, 0)", x.fine(999, 0, 0), 0);
        due("fine(999, 0, 1)", x.fine(999, 0, 1), NONE);
        due("fine(1000, 0, 0)", x.fine(1000, 0, 0), OUTSIDE);
        due("fine(-1, 0, 0)", x.fine(-1, 0, 0), OUTSIDE);
        due("fine(0, 11, 0)", x.fine(0, 11, 0), OUTSIDE);
        due("fine(0, -1, 0)", x.fine(0, -1, 0), OUTSIDE);
        due("fine(0, 0, 1000)", x.fine(0, 0, 1000), OUTSIDE);
        due("fine(0, 0, -1)", x.fine(0, 0, -1), OUTSIDE);
    }

    private static void promise22() {
        about("promise 22");
        NamesByLot x = with(".AAs", "Am");
        word(x, 10, 10, 2, 3);
        word(x, 10, 0, 1, 1);
        word(x, 0, 10, 0, 1);
        word(x, 0, 0, 0, 1);
        word(x, 5, 1, 10, 11);
        word(with("...", "."), 0, 10, 0, 1);
        word(with("ss"), 10, 0, 0, 1);
        word(new NamesByLot(), 5, 5, LOST + NO, LOST + NO);
        due("word(5, 5, 2)", new NamesByLot().word(5, 5, 2), LOST + OUTSIDE);
        word(x, 11, 0, LOST + OUTSIDE, LOST + OUTSIDE);
        word(x, -1, 0, LOST + OUTSIDE, LOST + OUTSIDE);
        word(x, 0, 11, LOST + OUTSIDE, LOST + OUTSIDE);
        word(x, 0, -1, LOST + OUTSIDE, LOST + OUTSIDE);
        x.set(0, 1, 1);
        word(x, 10, 10, 1, 2);
        x.set(1, 1, 1);
        word(x, 10, 10, LOST + NO, LOST + NO);
    }

    private static void promise23() {
        about("promise 23");
        NamesByLot x = with("AB.", "Ass", "CC", "");
        due("strike(0)", x.strike(0), 2);
        due("strike(1)", x.strike(1), 0);
        due("strike(2)", x.strike(2), 1);
        due("strike(3)", x.strike(3), 0);
        due("told(3)", x.told(3), 0);
        x.set(1, 1, 1);
        due("strike(0)", x.strike(0), 3);
        due("strike(1)", x.strike(1), STATE);
        due("strike(6)", x.strike(6), UNKNOWN);
        due("strike(-1)", x.strike(-1), UNKNOWN);
        NamesByLot over = with("AA", "A", ".");
        due("strike(2)", over.strike(2), STATE);
        due("strike(6)", over.strike(6), UNKNOWN);
    }

    private static void promise24() {
        about("promise 24");
        due("worst()", new NamesByLot().worst(), 0);
        NamesByLot x = with("A", "B.", "C.", "A");
        due("worst()", x.worst(), 1);
        x.set(1, 1, 1);
        due("worst()", x.worst(), 2);
        x.set(2, 1, 1);
        due("worst()", x.worst(), 0);
        x.set(0, 1, 1);
        due("worst()", x.worst(), 3);
        x.set(3, 1, 1);
        due("worst()", x.worst(), 4);
        x.set(4, 1, 1);
        due("worst()", x.worst(), 5);
        x.set(5, 1, 1);
        due("worst()", x.worst(), NONE);
        due("worst()", with("AA", "A").worst(), STATE);
    }

    private static void promise25() {
        about("promise 25");
        // A lot of 1 is valid with odds 2 by 2 + x: a half at 2, less at 3.
        NamesByLot x = need(rule(with("..", ""), "v"), 1);
        due("against(0, 1)", x.against(0, 1), 3);
        // There being no bad one, doubling changes nothing.
        due("against(1, 1)", x.against(1, 1), NONE);
        // Of A A . a lot of 2 is a pair in 1 of 3 ways, of A A B B in 2 of 6: never more than a half.
        need(rule(x, "-2d"), 2);
        due("against(1, 2)", x.against(1, 2), NONE);
        need(rule(x, "-Nd"), 3);
        // Two names alone come to 2: it is turned from the start.
        due("against(1, 2)", x.against(1, 2), 0);
        due("against(0, 2)", x.against(0, 2), 0);
        NamesByLot one = need(rule(with("."), "-1d"), 1);
        due("against(1, 1)", one.against(1, 1), NONE);
        NamesByLot three = need(rule(with("..."), "-1d"), 1);
        // A lot of 3 has a pair: 0 of 1, 2 of 4, 6 of 10, 12 of 20.
        due("against(1, 3)", three.against(1, 3), 2);
        due("against(0, 3)", three.against(0, 3), NONE);
        // A person that stands there once is no .: only two can be doubled.
        NamesByLot named = need(rule(with("A.."), "-1d"), 1);
        due("against(1, 3)", named.against(1, 3), 2);
        due("against(1, 3)", need(rule(with("AB."), "-1d"), 1).against(1, 3), NONE);
        // 60 at most: 55 names, 28 good ones, turned by 2 strange ones; 60 by none.
        NamesByLot big = with("..........", "..........", "........ss", "ssssssssss", "ssssssssss", "sssss");
        need(rule(big, "v"), 1);
        due("against(0, 1)", big.against(0, 1), 2);
        say(big, "..........").names(3);
        due("against(0, 1)", big.against(0, 1), NONE);
        due("against(2, 1)", big.against(2, 1), OUTSIDE);
        due("against(-1, 1)", big.against(-1, 1), OUTSIDE);
        due("against(0, 0)", big.against(0, 0), OUTSIDE);
        due("against(0, 56)", big.against(0, 56), OUTSIDE);
        due("against(0, 1)", new NamesByLot().against(0, 1), OUTSIDE);
        // 30 at most: 29 good ones are turned by 30, 30 are not.
        NamesByLot thirty = need(rule(with("..........", "..........", "........."), "v"), 1);
        due("against(0, 1)", thirty.against(0, 1), 30);
        say(thirty, "..........").names(2);
        due("against(0, 1)", thirty.against(0, 1), NONE);
        // 31 - N is below 0 from 32 on, 30 - N from 31 on.
        due("against(0, 1)", need(rule(with("."), "-+*561N"), 0).against(0, 1), NONE);
        due("against(0, 1)", need(rule(with("."), "-*56N"), 0).against(0, 1), 30);
        // The most that can be doubled, however many ways there are.
        NamesByLot dots = need(rule(with("..........", "..........", ".........."), "0"), 0);
        due("against(1, 30)", dots.against(1, 30), NONE);
        due("against(0, 30)", dots.against(0, 30), NONE);
        due("against(1, 30)", need(rule(dots, "-*69N"), 0).against(1, 30), 25);
        due("against(1, 30)", need(rule(dots, "-+*695N"), 0).against(1, 30), 30);
        // N is all with those that came.
        NamesByLot grown = need(rule(with("."), "-9N"), 5);
        due("against(0, 1)", grown.against(0, 1), 4);
        NamesByLot over = with("AAA");
        due("against(0, 1)", over.against(0, 1), STATE);
        due("against(0, 4)", over.against(0, 4), OUTSIDE);
        due("against(2, 1)", over.against(2, 1), OUTSIDE);
    }

    private static void heap(NamesByLot x, int seed, int k, int valid, int doubles, int yes) {
        due("heap(" + seed + ", " + k + ", 0)", x.heap(seed, k, 0), valid);
        due("heap(" + seed + ", " + k + ", 1)", x.heap(seed, k, 1), doubles);
        due("heap(" + seed + ", " + k + ", 2)", x.heap(seed, k, 2), yes);
    }

    private static void promise26() {
        about("promise 26");
        // Seed 0 becomes 74, then 5624, then 5624 * 75 + 74 = 421874 = 6 * 65537 + 28652.
        NamesByLot x = need(rule(with("sA.", "Am"), "v"), 1);
        // 74 by 5 leaves 4: m; 5624 by 4 leaves 0: s; 28652 by 3 leaves 2: the second A.
        heap(x, 0, 1, 0, 0, 0);
        heap(x, 0, 2, 0, 0, 0);
        heap(x, 0, 3, 1, 0, 1);
        heap(x, 0, 5, 3, 1, 1);
        // 28652 * 75 + 74 = 2148974 = 32 * 65537 + 51790, by 2 leaves 0: the first A.
        heap(x, 0, 4, 2, 1, 1);
        x.set(0, 1, 1);
        // 74 by 2 leaves 0: A.
        heap(x, 0, 1, 1, 0, 1);
        // 9999 * 75 + 74 = 749999 = 11 * 65537 + 29092, by 2 leaves 0; 7 * 75 + 74 = 599, by 2 leaves 1: m.
        heap(x, 9999, 1, 1, 0, 1);
        heap(x, 7, 1, 0, 0, 0);
        need(rule(x, "-9N"), 7);
        heap(x, 7, 1, 0, 0, 1);
        due("heap(-1, 1, 0)", x.heap(-1, 1, 0), OUTSIDE);
        due("heap(10000, 1, 0)", x.heap(10000, 1, 0), OUTSIDE);
        due("heap(0, 0, 0)", x.heap(0, 0, 0), OUTSIDE);
        due("heap(0, 3, 0)", x.heap(0, 3, 0), OUTSIDE);
        due("heap(0, 1, 3)", x.heap(0, 1, 3), OUTSIDE);
        due("heap(0, 1, -1)", x.heap(0, 1, -1), OUTSIDE);
        NamesByLot over = with("AAA");
        due("heap(0, 1, 0)", over.heap(0, 1, 0), STATE);
        due("heap(0, 4, 0)", over.heap(0, 4, 0), OUTSIDE);
    }

    private static void promise27() {
        about("promise 27");
        NamesByLot x = new NamesByLot();
        due("image(2)", x.image(2), OUTSIDE);
        due("image(-1)", x.image(-1), OUTSIDE);
        due("restore(0)", x.restore(0), STATE);
        due("image(0)", x.image(0), 1);
        due("restore(1)", x.restore(1), STATE);
        due("restore(0)", x.restore(0), 1);
        // An image that is kept again is the later one.
        need(x, 5);
        due("image(0)", x.image(0), 1);
        need(x, 6);
        due("image(1)", x.image(1), 1);
        need(x, 7);
        x.restore(0);
        due("told(1)", x.told(1), 5);
        x.restore(1);
        due("told(1)", x.told(1), 6);
        due("told(0)", say(x, "ab").told(0), 2);
        due("image(0)", x.image(0), 1);
        due("told(0)", x.told(0), 2);
    }

    private static void promise28() {
        about("promise 28");
        NamesByLot x = need(rule(with(".A", "sm", "", "", "", "ABCDEFGHIJ"), "+vd"), 3);
        x.set(1, 0, 4);
        x.set(5, 0, 3);
        x.set(0, 1, 1);
        say(x, "xyz");
        x.image(1);
        x.wipe();
        say(x, "uuu").names(0);
        x.names(1);
        say(x, "QRSTUVWXYZ").names(5);
        x.set(5, 0, 0);
        rule(x, "d");
        need(x, 9);
        x.set(1, 0, 2);
        x.set(0, 1, 0);
        x.set(3, 1, 1);
        say(x, "q");
        due("restore(0)", x.restore(0), STATE);
        due("told(1)", x.told(1), 9);
        due("restore(2)", x.restore(2), OUTSIDE);
        due("restore(-1)", x.restore(-1), OUTSIDE);
        due("restore(1)", x.restore(1), 1);
        due("told(0)", x.told(0), 1);
        due("told(1)", x.told(1), 3);
        due("told(2)", x.told(2), 3);
        due("told(3)", x.told(3), 1);
        due("told(11)", x.told(11), 4);
        due("told(20)", x.told(20), 2);
        due("told(21)", x.told(21), 2);
        due("sheet(0, 0)", x.sheet(0, 0), '.');
        due("sheet(0, 1)", x.sheet(0, 1), 'A');
        due("sheet(1, 0)", x.sheet(1, 0), 's');
        due("sheet(5, 0)", x.sheet(5, 0), 'A');
        due("sheet(5, 9)", x.sheet(5, 9), 'J');
        due("told(15)", x.told(15), 3);
        comes(x, 0, 0, 4, 5, 9, 1);
        // What is changed after it leaves the image as it was.
        x.wipe();
        say(x, "Z").names(0);
        need(x, 8);
        due("restore(1)", x.restore(1), 1);
        due("sheet(0, 0)", x.sheet(0, 0), '.');
        due("told(1)", x.told(1), 3);
        due("told(20)", x.told(20), 2);
    }

    private static void promise29() {
        about("promise 29");
        NamesByLot x = need(rule(with("", "..", "sss", "", "", "....."), "*2v"), 12);
        x.set(2, 0, 3);
        x.set(5, 0, 1);
        x.set(0, 1, 1);
        x.set(2, 1, 1);
        x.set(5, 1, 1);
        say(x, "abcd");
        due("told(0)", x.told(0), 4);
        due("told(1)", x.told(1), 12);
        due("told(2)", x.told(2), 3);
        due("told(3)", x.told(3), 37);
        due("told(10)", x.told(10), 0);
        due("told(12)", x.told(12), 3);
        due("told(15)", x.told(15), 1);
        due("told(20)", x.told(20), 0);
        due("told(21)", x.told(21), 2);
        due("told(22)", x.told(22), 3);
        due("told(25)", x.told(25), 5);
        for (int what : new int[] {-1, 4, 9, 16, 19, 26, Integer.MIN_VALUE, Integer.MAX_VALUE}) {
            due("told(" + what + ")", x.told(what), OUTSIDE);
        }
    }
}
