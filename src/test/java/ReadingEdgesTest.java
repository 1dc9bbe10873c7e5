/**
 * "Terms" 1 and promises 1 to 5, sentence by sentence: too little, too much, nothing, all, what is refused.
 * The words of the document stand ahead of their tests.
 */
public final class ReadingEdgesTest {
    private static final Check CHECK = new Check();
    private static final String TWO = "cake pp plain wide 7 up ; cake qq glazed wide 4 down ; ";
    private static final String FIVE = Check.stack("browned", 1, 2, 3, 4, 5);
    private static final String[] RESERVED = {"cake", "wide", "up", "down", "bars", "costs", "turn", "plain", "browned",
        "heavy", "glazed", "not", "and", "or"};
    private static final String[] FACTS = {"take", "left", "weight", "brown"};
    /** 8 ten times, twice: the least int. */
    private static final String LEAST_INT = "8*8*8*8*8*8*8*8*8*8*2";

    public static void main(String[] args) {
        begins();
        tape();
        bytes();
        taken();
        tokens();
        words();
        numbers();
        signs();
        griddles();
        cakes();
        names();
        plans();
        wishes();
        lawForms();
        depths();
        facts();
        values();
        places();
        firstAndLeast();
        kinds();
        oneTooMany();
        fromThenOn();
        againAndAgain();
        allStays();
        instead();
        CHECK.end();
    }

    private static void griddleIs(String text, int kind, int place) {
        CHECK.due("griddle of '" + text + "'", Check.griddle(new HotCakes(), text), kind + 16 * place);
    }

    /** A plan for the two cakes. */
    private static void planIs(String text, int kind, int place) {
        CHECK.due("plan of '" + text + "'", Check.plan(Check.with(TWO), text), kind + 16 * place);
    }

    /** A wish for the two cakes. */
    private static void wishIs(String text, int kind, int place) {
        CHECK.due("wish of '" + text + "'", Check.wish(Check.with(TWO), text), kind + 16 * place);
    }

    /** What it costs to turn so many: a browned cake up, a heavy one, a glazed one up, a browned one down, a plain one. */
    private static void lawIs(String law, int take, int want) {
        HotCakes x = Check.with("cake a browned wide 1 up; cake b heavy wide 2 up; cake c glazed wide 3 up;"
            + "cake d browned wide 4 down; cake e plain wide 5 up; costs " + law + ";");
        CHECK.due("cost(" + take + ") by " + law, x.cost(take), want);
    }

    // ---- the tape ----

    private static void begins() {
        CHECK.sentence("promise 1", "Nothing.");
        HotCakes x = new HotCakes();
        for (int what = 0; what < 10; what++) {
            CHECK.due("count(" + what + ")", x.count(what), what == 1 ? 1 : 0);
        }
        CHECK.due("a mark", x.mark(0, true) || x.mark(1, true) || x.mark(2, true) || x.mark(3, true), false);
        CHECK.sentence("Terms 1", "At first: nothing (no CAKES).");
        CHECK.due("cake 0", x.cake(0, 0), -1);
        CHECK.due("place 0", x.there(0), -1);
        CHECK.due("no wish, not an empty one", x.far(), -1);
        CHECK.due("the stack of no cakes is served", x.served(), true);
        Check.feed(x, "turn 1;");
        CHECK.due("another object has another tape", new HotCakes().count(9), 0);
        Check.griddle(x, TWO);
        CHECK.due("and other cakes", new HotCakes().count(0), 0);
        CHECK.sentence("the constants", "NONE = -1");
        CHECK.due("NONE", HotCakes.NONE, -1);
    }

    private static void tape() {
        CHECK.sentence("Terms 1", "The TAPE has at most 1,000 signs");
        HotCakes x = Check.with(TWO);
        CHECK.due("999", Check.feed(x, " ".repeat(999)), 999);
        CHECK.due("1,000", Check.feed(x, ";"), 1000);
        CHECK.due("it is there", x.plan(), 1 + 16 * 999);
        CHECK.due("just 1,000 at once", Check.feed(x, " ".repeat(994) + "turn1;"), 1000);
        CHECK.due("all of them are read", x.plan() * 10 + x.count(5), 1);
        CHECK.sentence("promise 2", "what is beyond 1,000, are left out");
        CHECK.due("1,001", Check.feed(x, " ".repeat(995) + "turn1;"), 1000);
        CHECK.due("the last one is not read", x.plan(), 1 + 16 * 1000);
        CHECK.due("984", Check.feed(x, " ".repeat(984)), 984);
        CHECK.due("of 24 the first 16", Check.feed(x, "turn1;turn2;turn1;turn2;"), 1000);
        CHECK.due("no more", Check.feed(x, "a"), 1000);
        CHECK.due("nor by nothing", x.feed(0, 0, 0), 1000);
        CHECK.due("the 1,000th is the 1 of the third", x.plan(), 1 + 16 * 1000);
        CHECK.due("behind it there is room", Check.feed(x, "turn1;"), 6);
        CHECK.sentence("promise 2", "Up to 24 signs come behind the TAPE");
        CHECK.due("behind what is there", Check.feed(x, "turn2;turn1;turn2;turn1;"), 30);
        CHECK.due("in their order", x.plan() * 10 + x.count(5), 5);
        CHECK.due("the second line is 2, glazed", x.judged(0), 1);
        CHECK.sentence("promise 2", "how many there are");
        CHECK.due("of nothing", new HotCakes().feed(0, 0, 0), 0);
    }

    private static void bytes() {
        CHECK.sentence("Terms 1, promise 2", "10 and 32 .. 126 [...] others [...] are left out");
        for (int where = 0; where < 3; where++) {
            HotCakes x = new HotCakes();
            int signs = 0;
            for (int sign = 0; sign < 256; sign++) {
                long bytes = (long) sign << (where == 0 ? 56 : where == 1 ? 24 : 0);
                signs += sign == 10 || sign > 31 && sign < 127 ? 1 : 0;
                CHECK.due("sign " + sign, x.feed(where == 0 ? bytes : 0, where == 1 ? bytes : 0, where == 2 ? bytes : 0),
                    signs);
            }
        }
        CHECK.due("what is left out takes no room", new HotCakes().feed(-1, -1, 0xff41ffL), 1);
        CHECK.sentence("promise 2", "the bytes of a, b, c, of each the highest first");
        for (int lost = 0; lost < 24; lost++) {
            // all blanks but for one sign, which is read at its place
            long[] abc = {0x2020202020202020L, 0x2020202020202020L, 0x2020202020202020L};
            abc[lost / 8] ^= 0x01L << 8 * (7 - lost % 8);
            HotCakes x = new HotCakes();
            CHECK.due("24 signs", x.feed(abc[0], abc[1], abc[2]), 24);
            CHECK.due("the sign " + lost, x.plan(), 1 + 16 * lost);
        }
    }

    private static void taken() {
        CHECK.sentence("Terms 1", "what reads it takes it: it is empty then");
        HotCakes x = new HotCakes();
        CHECK.due("a griddle", Check.griddle(x, TWO) + x.count(9), 0);
        CHECK.due("a griddle with a fault", Check.griddle(x, "cake") * 2000 + x.count(9), (1 + 16 * 4) * 2000);
        CHECK.due("a plan", Check.plan(x, "turn 1;") + x.count(9), 0);
        CHECK.due("a plan with a fault", Check.plan(x, "turn 9;") * 2000 + x.count(9), (4 + 16 * 5) * 2000);
        CHECK.due("a wish", Check.wish(x, "pp up qq up") + x.count(9), 0);
        CHECK.due("a wish with a fault", Check.wish(x, "rr up") * 2000 + x.count(9), 2 * 2000);
        CHECK.due("what is read then is empty: a wish", x.wish(), 1);
        CHECK.due("a plan", x.plan(), 0);
        CHECK.due("which is there", x.count(5), 0);
        CHECK.due("a griddle", x.griddle(), 0);
        CHECK.due("which has no cakes", x.count(0), 0);
        CHECK.due("what comes then is the first", Check.plan(x, "?"), 1);
    }

    // ---- tokens ----

    private static void tokens() {
        CHECK.sentence("Terms 1", "TOKENS, each as long as can be");
        griddleIs("cakea plain wide 1 up;", 1, 0);
        griddleIs("cake aplain wide 1 up;", 1, 12);
        griddleIs("cake a plainwide 1 up;", 1, 7);
        griddleIs("bars takeleft;", 1, 5);
        griddleIs("bars 12;", 0, 0);
        griddleIs("bars notnot 1;", 1, 5);
        griddleIs("cake a plain wide 12 up;", 0, 0);
        planIs("turnturn", 1, 0);
        CHECK.sentence("Terms 1", "blanks (10, 32) between where one likes");
        griddleIs("cake a plain wide1up;bars(take+1)*2<left;", 0, 0);
        griddleIs("\n\n cake\na\nplain\nwide\n1\nup\n;\nbars\n(\ntake\n+\n1\n)\n*\n2\n;\n \n", 0, 0);
        griddleIs("   cake   a   plain   wide   1   up   ;   costs   not   (   take   <   1   )   ;   ", 0, 0);
        griddleIs("ca ke", 1, 0);
        griddleIs("cake a pl\nain", 1, 7);
        griddleIs("cake a plain wide 1 2 up;", 1, 20);
        planIs("\nturn\n1\n;\n", 0, 0);
        wishIs("\npp\nup\nqq\nup\n", 0, 0);
    }

    private static void words() {
        CHECK.sentence("Terms 1", "WORDS (letters a .. z, 8 at most)");
        for (String name : new String[] {"a", "z", "az", "m", "aaaaaaaa", "zzzzzzzz", "abcdefgh", "pancakes"}) {
            griddleIs("cake " + name + " plain wide 1 up;", 0, 0);
            HotCakes x = Check.with("cake " + name + " plain wide 1 up;");
            CHECK.due("it is known by it", Check.wish(x, name + " up"), 0);
            CHECK.due("not by more", Check.wish(x, "a" + name) != 0, true);
        }
        griddleIs("cake ` plain", 1, 5);
        griddleIs("cake a` plain", 1, 6);
        griddleIs("cake { plain", 1, 5);
        griddleIs("cake z{ plain", 1, 6);
        griddleIs("cake A plain", 1, 5);
        griddleIs("cake aB plain", 1, 6);
        griddleIs("Cake a plain", 1, 0);
        griddleIs("cake a1 plain", 1, 6);
        CHECK.sentence("Terms 1", "All else (a longer WORD [...], too, at its first sign) is none.");
        griddleIs("cake abcdefghi plain wide 1 up;", 1, 5);
        griddleIs("  aaaaaaaaa", 1, 2);
        griddleIs("cake " + "z".repeat(995), 1, 5);
        wishIs("ppppppppp up", 1, 0);
        wishIs("pp up qqqqqqqqq up", 1, 6);
        planIs("turnturnt 1;", 1, 0);
        griddleIs("bars taketaket;", 1, 5);
    }

    private static void numbers() {
        CHECK.sentence("Terms 1", "NUMBERS (1 to 4 digits");
        griddleIs("cake a plain wide 9 up;", 0, 0);
        griddleIs("cake a plain wide 10 up;", 0, 0);
        griddleIs("cake a plain wide 0030 up;", 0, 0);
        CHECK.due("0030 is 30", Check.with("cake a plain wide 0030 up;").cake(0, 1), 30);
        CHECK.due("29 is 29", Check.with("cake a plain wide 29 up;").cake(0, 1), 29);
        CHECK.due("18 is 18", Check.with("cake a plain wide 18 up;").cake(0, 1), 18);
        planIs("turn 1; turn 01; turn 001; turn 0001;", 0, 0);
        lawIs("9999 - 9995", 1, 4);
        lawIs("0 + 0000 + 0009", 1, 9);
        griddleIs("cake a plain wide / up;", 1, 18);
        griddleIs("cake a plain wide 1/ up;", 1, 19);
        griddleIs("cake a plain wide : up;", 1, 18);
        griddleIs("cake a plain wide 1: up;", 1, 19);
        CHECK.sentence("Terms 1", "All else (a longer [...] NUMBER, too, at its first sign) is none.");
        griddleIs("cake a plain wide 00001 up;", 1, 18);
        griddleIs("cake a plain wide 99999 up;", 1, 18);
        griddleIs("bars 10000;", 1, 5);
        griddleIs("bars 1 + " + "1".repeat(990), 1, 9);
        planIs("turn 00001;", 1, 5);
        planIs("turn 2147483648;", 1, 5);
        planIs("turn 4294967297;", 1, 5);
        CHECK.sentence("Terms 1", "a letter may stand right behind)");
        griddleIs("cake a plain wide 1up;", 0, 0);
        griddleIs("cake a plain wide 0001down;", 0, 0);
        griddleIs("cake a plain wide 00001down;", 1, 18);
        griddleIs("bars 1and 2or 3;", 0, 0);
        planIs("turn 1turn", 1, 6);
    }

    private static void signs() {
        CHECK.sentence("Terms 1", "the signs ( ) < = + - * ;");
        griddleIs("bars(1);", 0, 0);
        griddleIs("bars 1<2;", 0, 0);
        griddleIs("bars 1=2;", 0, 0);
        griddleIs("bars 1+2;", 0, 0);
        griddleIs("bars 1-2;", 0, 0);
        griddleIs("bars 1*2;", 0, 0);
        CHECK.sentence("Terms 1", "All else [...] is none.");
        for (char sign = 33; sign < 127; sign++) {
            boolean letter = sign >= 'a' && sign <= 'z';
            boolean digit = sign >= '0' && sign <= '9';
            if (!letter && !digit && "()<=+-*;".indexOf(sign) < 0) {
                griddleIs("bars 1 " + sign + " 2;", 1, 7);
                griddleIs("bars " + sign + "1;", 1, 5);
                planIs("turn 1" + sign, 1, 6);
                wishIs("pp" + sign + "up", 1, 2);
            }
        }
    }

    // ---- griddles ----

    private static void griddles() {
        CHECK.sentence("Terms 1", "GRIDDLE: any number of");
        griddleIs("", 0, 0);
        griddleIs(" \n", 0, 0);
        griddleIs(" ".repeat(1000), 0, 0);
        griddleIs("costs 1;", 0, 0);
        griddleIs("bars 1;cake a plain wide 1 up;costs 2;cake b plain wide 2 up;", 0, 0);
        CHECK.due("none: no cakes", Check.with("bars 1;").count(0), 0);
        griddleIs("; cake", 1, 0);
        griddleIs("cake a plain wide 1 up;;", 1, 23);
        griddleIs("cake a plain wide 1 up", 1, 22);
        griddleIs("cake a plain wide 1 up cake b", 1, 23);
        griddleIs("bars 1 costs 2;", 1, 7);
        griddleIs("turn 1;", 1, 0);
        CHECK.sentence("Terms 1", "bars, costs: once each");
        griddleIs("bars 1;", 0, 0);
        griddleIs("costs 1;bars 1;", 0, 0);
        griddleIs("bars 1; bars 1;", 3, 8);
        griddleIs("costs 1; costs 1;", 3, 9);
        griddleIs("bars 1; costs 1; cake a plain wide 1 up; bars", 3, 41);
        griddleIs("bars 1; costs 1; cake a plain wide 1 up; costs", 3, 41);
        HotCakes x = Check.with("bars 1;");
        CHECK.due("in another griddle it is the first again", Check.griddle(x, "bars 1;"), 0);
        CHECK.due("a fault behind one", Check.griddle(x, "costs 1; ?"), 1 + 16 * 9);
        CHECK.due("behind which it is the first again, too", Check.griddle(x, "costs 1;"), 0);
    }

    private static void cakes() {
        CHECK.sentence("Terms 1", "cake: 5 at most");
        griddleIs(FIVE, 0, 0);
        CHECK.due("five", Check.with(FIVE).count(0), 5);
        griddleIs(FIVE + "cake f plain wide 6 up;", 5, FIVE.length());
        CHECK.sentence("Terms 1", "numbered as told, from the top of the STACK down");
        HotCakes x = Check.with("cake z plain wide 30 up; cake y browned wide 1 up; costs 1; cake x heavy wide 2 down;"
            + "cake a glazed wide 29 down; cake b glazed wide 7 up;");
        int[] wide = {30, 1, 2, 29, 7};
        int[] kind = {0, 1, 2, 3, 3};
        int[] up = {0, 1, 0, 0, 1};
        for (int i = 0; i < 5; i++) {
            CHECK.due("there(" + i + ")", x.there(i), i);
            CHECK.due("cake(" + i + ", 2)", x.cake(i, 2), i);
            CHECK.due("cake(" + i + ", 1)", x.cake(i, 1), wide[i]);
            CHECK.due("cake(" + i + ", 3)", x.cake(i, 3), up[i]);
        }
        CHECK.sentence("Terms 1", "KIND: plain, browned, heavy, glazed");
        for (int i = 0; i < 5; i++) {
            CHECK.due("cake(" + i + ", 0)", x.cake(i, 0), kind[i]);
        }
        griddleIs("cake a brown wide 1 up;", 1, 7);
        griddleIs("cake a wide 1 up;", 1, 7);
        griddleIs("cake a 1", 1, 7);
        griddleIs("cake a", 1, 6);
        CHECK.sentence("Terms 1", "wide 1 to 30");
        griddleIs("cake a plain wide 1 up;", 0, 0);
        griddleIs("cake a plain wide 30 up;", 0, 0);
        griddleIs("cake a plain wide 0 up;", 4, 18);
        griddleIs("cake a plain wide 0000 up;", 4, 18);
        griddleIs("cake a plain wide 31 up;", 4, 18);
        griddleIs("cake a plain wide 9999 up;", 4, 18);
        griddleIs("cake a plain wide -1 up;", 1, 18);
        griddleIs("cake a plain wide", 1, 17);
        griddleIs("cake a plain 1 up;", 1, 13);
        CHECK.sentence("Terms 1", "no two alike [...] a width told already");
        griddleIs("cake a plain wide 1 up; cake b plain wide 1 up;", 3, 42);
        griddleIs("cake a plain wide 3 up; cake b glazed wide 4 down; cake c heavy wide 3", 3, 69);
        griddleIs("cake a plain wide 3 up; cake b glazed wide 4 down; cake c heavy wide 0004", 3, 69);
        griddleIs("cake a plain wide 3 up; cake b glazed wide 4 down; cake c heavy wide 5 up;", 0, 0);
        HotCakes y = Check.with("cake a plain wide 3 up;");
        CHECK.due("in another griddle it is free again", Check.griddle(y, "cake b plain wide 3 up;"), 0);
        CHECK.sentence("Terms 1", "LIES: up, down");
        griddleIs("cake a plain wide 3;", 1, 19);
        griddleIs("cake a plain wide 3 left;", 1, 20);
        griddleIs("cake a plain wide 3 up down;", 1, 23);
    }

    private static void names() {
        CHECK.sentence("Terms 1",
            "A NAME is another WORD than cake, wide, up, down, bars, costs, turn, the KINDS, not, and, or");
        for (String word : RESERVED) {
            griddleIs("cake " + word + " plain wide 1 up;", 1, 5);
            wishIs(word + " up", 1, 0);
            griddleIs("cake " + word + "x plain wide 1 up;", 0, 0);
            griddleIs("cake " + word.substring(1) + "o plain wide 1 up;", 0, 0);
        }
        griddleIs("cake take plain wide 1 up; cake left plain wide 2 up; cake weight plain wide 3 up; cake brown plain"
            + " wide 4 up; cake griddle plain wide 5 up;", 0, 0);
        HotCakes x = Check.with("cake left plain wide 9 up; cake take plain wide 2 up; costs left + take;");
        CHECK.due("a fact that is a name", Check.wish(x, "take up left down"), 0);
        CHECK.due("is a fact in a law all the same", x.cost(1), 2);
        griddleIs("cake 1 plain wide 1 up;", 1, 5);
        griddleIs("cake ; plain wide 1 up;", 1, 5);
        griddleIs("cake", 1, 4);
        CHECK.sentence("Terms 1", "no two CAKES are alike [...] a NAME told already");
        griddleIs("cake a plain wide 1 up; cake a", 3, 29);
        griddleIs("cake a plain wide 1 up; cake b plain wide 2 up; cake c plain wide 3 up; cake a", 3, 77);
        griddleIs("cake abcdefgh plain wide 1 up; cake abcdefgh", 3, 36);
        griddleIs("cake a plain wide 1 up; cake aa plain wide 2 up; cake aaa plain wide 3 up; cake ab plain wide 4 up;"
            + "cake ba plain wide 5 up;", 0, 0);
        HotCakes y = Check.with("cake a plain wide 3 up;");
        CHECK.due("in another griddle it is free again", Check.griddle(y, "cake a plain wide 4 up;"), 0);
    }

    // ---- plans and wishes ----

    private static void plans() {
        CHECK.sentence("Terms 1", "PLAN: any number of turn N ;");
        planIs("", 0, 0);
        planIs(" \n ", 0, 0);
        planIs("turn 1;", 0, 0);
        planIs("turn 1", 1, 6);
        planIs("turn", 1, 4);
        planIs("turn;", 1, 4);
        planIs("turn pp;", 1, 5);
        planIs("1;", 1, 0);
        planIs(";", 1, 0);
        planIs("turn 1;;", 1, 7);
        planIs("turn 1 2;", 1, 7);
        planIs("turn 1 turn 2;", 1, 7);
        planIs("turn turn 2;", 1, 5);
        planIs("turn (1);", 1, 5);
        planIs("pp up qq up", 1, 0);
        CHECK.sentence("Terms 1", "(1 to as many as there are CAKES)");
        planIs("turn 0;", 4, 5);
        planIs("turn 1; turn 2;", 0, 0);
        planIs("turn 3;", 4, 5);
        planIs("turn 1; turn 9999;", 4, 13);
        CHECK.due("5 of five", Check.plan(Check.with(FIVE), "turn 5;"), 0);
        CHECK.due("6 of five", Check.plan(Check.with(FIVE), "turn 6;"), 4 + 16 * 5);
        CHECK.due("1 of none", Check.plan(new HotCakes(), "turn 1;"), 4 + 16 * 5);
        CHECK.due("0 of none", Check.plan(new HotCakes(), "turn 0;"), 4 + 16 * 5);
        CHECK.due("no lines for none", Check.plan(new HotCakes(), ""), 0);
        CHECK.due("one that can't be is a line all the same", Check.plan(Check.with(TWO + "bars 1;"), "turn 2;"), 0);
        CHECK.sentence("Terms 1", "40 lines at most");
        planIs("turn 1;".repeat(39), 0, 0);
        planIs("turn 1;".repeat(40), 0, 0);
        planIs("turn 1;".repeat(40) + " \n", 0, 0);
        planIs("turn 1;".repeat(41), 5, 280);
        HotCakes x = Check.with(TWO);
        Check.plan(x, "turn 1;".repeat(40));
        CHECK.due("40 are there", x.count(5), 40);
        CHECK.due("and are done", x.judged(2), 40);
    }

    private static void wishes() {
        CHECK.sentence("Terms 1", "WISH: from the top down NAME LIES of each CAKE, once");
        wishIs("pp up qq up", 0, 0);
        wishIs("qq down pp down", 0, 0);
        wishIs("", 1, 0);
        wishIs(" \n", 1, 2);
        wishIs("pp", 1, 2);
        wishIs("pp up", 1, 5);
        wishIs("pp up qq", 1, 8);
        wishIs("pp qq", 1, 3);
        wishIs("up pp", 1, 0);
        wishIs("7", 1, 0);
        wishIs("pp 7", 1, 3);
        wishIs("pp up pp down", 3, 6);
        wishIs("qq up qq up", 3, 6);
        wishIs("rr up", 2, 0);
        wishIs("pp up rr up", 2, 6);
        wishIs("p up", 2, 0);
        wishIs("ppp up", 2, 0);
        HotCakes x = Check.with(Check.stack("browned", 3, 4));
        Check.wish(x, "b down a up");
        CHECK.due("the first one is on top", x.far(), 2);
        Check.wish(x, "a down b down");
        CHECK.due("as it is", x.far(), 0);
        CHECK.sentence("Terms 1", "nothing else");
        wishIs("pp up; qq up", 1, 5);
        wishIs("pp up qq up;", 1, 11);
        wishIs("(pp up", 1, 0);
        CHECK.sentence("Terms 1", "where there are no CAKES an empty text is a WISH");
        HotCakes y = new HotCakes();
        CHECK.due("no wish yet", y.far(), -1);
        CHECK.due("an empty text", y.wish(), 0);
        CHECK.due("is one", y.far(), 0);
        CHECK.due("blanks", Check.wish(new HotCakes(), "\n  \n"), 0);
        CHECK.sentence("Terms 1", "behind all CAKES each token can't stand there");
        for (String token : new String[] {"pp", "qq up", "rr", "up", "cake", "not", "take", "7", "12345", ";", "(", "=", "!",
            "abcdefghi", "turn 1;"}) {
            wishIs("pp up qq up " + token, 1, 12);
            CHECK.due("no cakes, '" + token + "'", Check.wish(new HotCakes(), " " + token), 1 + 16);
        }
    }

    // ---- laws ----

    private static void lawForms() {
        CHECK.sentence("Terms 1", "E: TEST { and TEST or or TEST }, from the left");
        lawIs("(1 or 0 and 0) + 4", 1, 4);
        lawIs("(0 and 0 or 1) + 4", 1, 5);
        lawIs("(1 or 1 and 0 or 0) + 4", 1, 4);
        lawIs("1 and 1" + " and 1".repeat(100), 1, 1);
        griddleIs("bars 1 and;", 1, 10);
        griddleIs("bars and 1;", 1, 5);
        griddleIs("bars 1 and or 1;", 1, 11);
        griddleIs("bars 1 or", 1, 9);
        griddleIs("bars ;", 1, 5);
        griddleIs("bars", 1, 4);
        CHECK.sentence("Terms 1", "TEST: SUM, or SUM < SUM, or SUM = SUM");
        lawIs("(1 + 1 < 2 + 1) + 4", 1, 5);
        lawIs("(2 < 2) + 4", 1, 4);
        lawIs("(3 < 2) + 4", 1, 4);
        lawIs("(2 = 2) + 4", 1, 5);
        lawIs("(2 = 3) + 4", 1, 4);
        lawIs("(1 < 2 and 2 < 3) + 4", 1, 5);
        griddleIs("bars 1 < 2 < 3;", 1, 11);
        griddleIs("bars 1 < 2 = 3;", 1, 11);
        griddleIs("bars 1 = 1 < 3;", 1, 11);
        griddleIs("bars 1 = 1 = 3;", 1, 11);
        griddleIs("bars (1 < 2) < 3;", 0, 0);
        griddleIs("bars 1 <;", 1, 8);
        griddleIs("bars < 1;", 1, 5);
        griddleIs("bars 1 = = 1;", 1, 9);
        CHECK.sentence("Terms 1", "SUM: PRODUCT { + or - PRODUCT }; PRODUCT: PART { * PART }");
        lawIs("9 - 3 - 2", 1, 4);
        lawIs("9 - 3 + 2", 1, 8);
        lawIs("2 + 3 * 2", 1, 8);
        lawIs("2 * 3 + 2", 1, 8);
        lawIs("9 - 2 * 3", 1, 3);
        lawIs("2 * 2 * 2", 1, 8);
        griddleIs("bars -1;", 1, 5);
        griddleIs("bars 1 - - 1;", 1, 9);
        griddleIs("bars 1 +;", 1, 8);
        griddleIs("bars 1 *;", 1, 8);
        griddleIs("bars * 1;", 1, 5);
        griddleIs("bars 1 + * 1;", 1, 9);
        griddleIs("bars take +;", 1, 11);
        griddleIs("bars brown *)", 1, 12);
        griddleIs("bars left <", 1, 11);
        griddleIs("bars weight and ;", 1, 16);
        griddleIs("bars take and - 1;", 1, 14);
        griddleIs("bars take + ?", 1, 12);
        griddleIs("bars take + abcdefghi", 1, 12);
        griddleIs("bars take + 12345", 1, 12);
        CHECK.sentence("Terms 1", "PART: a NUMBER, a fact, not PART, ( E )");
        lawIs("not 0 + 4", 1, 5);
        lawIs("not 1 < 1", 1, 1);
        lawIs("(not 1 < 1) + 4", 1, 5);
        lawIs("not 0 * 4", 1, 4);
        lawIs("2 * not 0 * 4", 1, 8);
        griddleIs("bars (1;", 1, 7);
        griddleIs("bars 1);", 1, 6);
        griddleIs("bars ();", 1, 6);
        griddleIs("bars (1", 1, 7);
        griddleIs("bars not;", 1, 8);
        griddleIs("bars 1 2;", 1, 7);
        griddleIs("bars 1 take;", 1, 7);
        griddleIs("bars take (1);", 1, 10);
        griddleIs("bars pp;", 1, 5);
        griddleIs("bars wide;", 1, 5);
        for (String word : RESERVED) {
            if (!word.equals("not")) {
                griddleIs("bars " + word + ";", 1, 5);
            }
        }
    }

    private static void depths() {
        CHECK.sentence("Terms 1, within 4", "no PART lies within 5 of not and ( )");
        lawIs("((((7))))", 1, 7);
        lawIs("not not not not 7", 1, 1);
        lawIs("(not(not take))", 1, 1);
        lawIs("((((1)))) + ((((2)))) * ((((3))))", 1, 7);
        lawIs("((((1) + 1) + 1) + 1) + 1", 1, 5);
        lawIs("not not not not 0 + not not not not 1", 1, 1);
        lawIs("(1 + (1 + (1 + (1 + 1))))", 1, 5);
        lawIs("((((0 or 1 < 1 + 1 * 1))))", 1, 1);
        CHECK.sentence("Terms 1", "no PART lies within 5 of not and ( )");
        griddleIs("bars (((((1)))));", 5, 10);
        griddleIs("bars ((((( 1;", 5, 11);
        griddleIs("bars not not not not not 1;", 5, 25);
        griddleIs("bars (not(not(1", 5, 14);
        griddleIs("bars ((((1 + (1", 5, 14);
        griddleIs("bars 1 + (((((take", 5, 14);
        griddleIs("bars ((((1)))) + (((((1", 5, 22);
        CHECK.sentence("Terms 1", "5 [...] not, or a PART, within 5 others");
        for (String part : new String[] {"0", "9999", "take", "left", "weight", "brown", "not", "("}) {
            griddleIs("bars ((((( " + part, 5, 11);
            griddleIs("costs not not not not not " + part, 5, 26);
        }
        for (String token : new String[] {"", ";", ")", "+", "<", "and", "or", "cake", "pp", "12345", "abcdefghi", "!"}) {
            griddleIs("bars ((((( " + token, 1, 11);
            griddleIs("costs not not not not not " + token, 1, 26);
        }
    }

    private static void facts() {
        CHECK.sentence("Terms 1", "take (how many are turned), left (how many stay)");
        for (int many = 1; many <= 5; many++) {
            lawIs("take", many, many);
            lawIs("left + 1", many, 6 - many);
        }
        CHECK.sentence("Terms 1", "weight (how wide those that are turned are, together, heavy ones twice)");
        lawIs("weight", 1, 1);
        lawIs("weight", 2, 5);
        lawIs("weight", 3, 8);
        lawIs("weight - 10", 4, 2);
        lawIs("weight - 10", 5, 7);
        CHECK.due("a heavy one that stays is not counted", Check.with("cake a plain wide 2 up; cake b heavy wide 7 up;"
            + "costs weight;").cost(1), 2);
        CHECK.due("the widest, twice", Check.with("cake b heavy wide 30 up; costs weight - 52;").cost(1), 8);
        CHECK.sentence("Terms 1", "brown (how many of those that are turned have a SIDE and lie up)");
        lawIs("brown + 1", 1, 2);
        lawIs("brown + 1", 2, 2);
        lawIs("brown + 1", 3, 3);
        lawIs("brown + 1", 4, 3);
        lawIs("brown + 1", 5, 3);
        HotCakes x = Check.with(Check.stack("browned", -1, -2, -3, -4, -5) + "costs brown * 2 - 1;");
        CHECK.due("all up", x.cost(5), 9);
        CHECK.due("of those that are turned", x.cost(3), 5);
        x.turn(5);
        CHECK.due("none up", x.cost(5), 1);
        CHECK.due("plain and heavy ones never are", Check.with("cake a plain wide 1 up; cake b heavy wide 2 up;"
            + "costs brown * 5 + 2;").cost(2), 2);
    }

    private static void values() {
        CHECK.sentence("Terms 1", "Of not, and, or, < and = comes 1 or 0");
        lawIs("(7 and 9) + 4", 1, 5);
        lawIs("(7 and 0) + 4", 1, 4);
        lawIs("(0 and 7) + 4", 1, 4);
        lawIs("(7 or 9) + 4", 1, 5);
        lawIs("(0 or 9) + 4", 1, 5);
        lawIs("(9 or 0) + 4", 1, 5);
        lawIs("(0 or 0) + 4", 1, 4);
        lawIs("not 7 + 4", 1, 4);
        lawIs("not 0 + 4", 1, 5);
        lawIs("(3 < 8) + (8 = 8) + 4", 1, 6);
        CHECK.sentence("Terms 1", "what is not 0 is so");
        lawIs("((0 - 1) and 1) + 4", 1, 5);
        lawIs("((0 - 1) or 0) + 4", 1, 5);
        lawIs("not (0 - 1) + 4", 1, 4);
        lawIs("not " + "(" + LEAST_INT + ") + 4", 1, 4);
        CHECK.due("bars 7", Check.with("cake a plain wide 1 up; bars 7;").can(1), false);
        CHECK.due("bars 0 - 7", Check.with("cake a plain wide 1 up; bars 0 - 7;").can(1), false);
        CHECK.due("bars 7 - 7", Check.with("cake a plain wide 1 up; bars 7 - 7;").can(1), true);
        CHECK.sentence("Terms 1", "ints wrap");
        lawIs("(" + LEAST_INT + " < 0) + 4", 1, 5);
        lawIs("(" + LEAST_INT + " - 1 < 0) + 4", 1, 4);
        lawIs("(0 - " + LEAST_INT + " < 0) + 4", 1, 5);
        lawIs("(0 - 1 - " + LEAST_INT + " + 1 < 0) + 4", 1, 5);
        lawIs(LEAST_INT + " * 2 + 6", 1, 6);
        lawIs("(9999 * 9999 * 9999 * 9999 = (9999 * 10 + 8964) * 9999 + 955) + 4", 1, 5);
        lawIs("(9999 * 9999 * 9999 = 0 - (9999 * 10 + 2755) * 9999 - 2714) + 4", 1, 5);
        CHECK.sentence("Terms 1", "Without bars: 0; without costs: 1.");
        HotCakes x = Check.with(FIVE);
        CHECK.due("all can be", x.count(4), 31);
        CHECK.due("each costs 1", x.cost(1) == 1 && x.cost(5) == 1, true);
        HotCakes y = Check.with("cake a plain wide 1 up; bars 1; costs 7;");
        Check.griddle(y, "cake a plain wide 1 up;");
        CHECK.due("nor do those of the griddle ahead bar it", y.can(1), true);
        CHECK.due("or cost", y.cost(1), 1);
    }

    // ---- faults ----

    private static void places() {
        CHECK.sentence("Terms 1", "FAULTS, kind + 16 * the place (from 0) of a token");
        griddleIs("?", 1, 0);
        griddleIs(" ?", 1, 1);
        griddleIs("\n?", 1, 1);
        griddleIs("cake a plain wide 31 up;", 4, 18);
        griddleIs(" ".repeat(999) + "?", 1, 999);
        wishIs("rr", 2, 0);
        wishIs(" ".repeat(998) + "rr", 2, 998);
        CHECK.sentence("Terms 1", "the end being one at the text's length");
        griddleIs("cake", 1, 4);
        griddleIs("cake ", 1, 5);
        griddleIs("cake\n\n ", 1, 7);
        griddleIs("cake" + " ".repeat(996), 1, 1000);
        griddleIs("bars 1", 1, 6);
        griddleIs("bars 1 ", 1, 7);
        planIs("turn 1", 1, 6);
        planIs("turn 1\n", 1, 7);
        wishIs("", 1, 0);
        wishIs(" ", 1, 1);
        wishIs(" ".repeat(1000), 1, 1000);
    }

    private static void firstAndLeast() {
        CHECK.sentence("Terms 1", "of the first token from the left that is wrong");
        griddleIs("cake a plain wide 31 up; cake a ?", 4, 18);
        griddleIs("cake a plain wide 1 up; cake a plain wide 1 ?", 3, 29);
        griddleIs("bars ((((( 1 ; ?", 5, 11);
        planIs("turn 9; ? turn", 4, 5);
        wishIs("rr pp ?", 2, 0);
        wishIs("pp up pp ?", 3, 6);
        CHECK.sentence("Terms 1", "that is wrong the least: 1 it is none, or can't stand there");
        griddleIs(FIVE + "bars cake;", 1, FIVE.length() + 5);
        griddleIs(FIVE + "bars 1 cake", 1, FIVE.length() + 7);
        griddleIs("bars bars", 1, 5);
        griddleIs("bars 1; costs bars", 1, 14);
        griddleIs("bars 1; costs 1 bars", 1, 16);
        griddleIs("cake a plain wide 1 up; cake b a", 1, 31);
        griddleIs("cake a plain wide 1 up; cake b plain 1", 1, 37);
        griddleIs("cake a plain 31", 1, 13);
        planIs("turn 1;".repeat(40) + "cake", 1, 280);
        planIs("turn 1;".repeat(40) + "1", 1, 280);
        planIs("turn 1;".repeat(40) + ";", 1, 280);
        planIs("turn 1;".repeat(40) + "turnturnt", 1, 280);
        planIs("turn 1 0", 1, 7);
        wishIs("pp pp", 1, 3);
        wishIs("pp rr", 1, 3);
        wishIs("pp up qq up pp", 1, 12);
        wishIs("pp up qq up rr", 1, 12);
    }

    private static void kinds() {
        CHECK.sentence("Terms 1", "2 a NAME of no CAKE (in a WISH) told");
        wishIs("rr", 2, 0);
        wishIs("pp down rr", 2, 8);
        wishIs("qqq", 2, 0);
        for (String fact : FACTS) {
            wishIs("pp up " + fact, 2, 6);
        }
        for (String reserved : RESERVED) {
            wishIs("pp up " + reserved, 1, 6);
        }
        CHECK.sentence("Terms 1",
            "3 a NAME told already; a width told already; a CAKE a second time in a WISH; bars, costs a second time");
        griddleIs("cake take plain wide 1 up; cake take", 3, 32);
        griddleIs("cake a plain wide 1 up; cake b plain wide 01", 3, 42);
        wishIs("pp up pp", 3, 6);
        wishIs("qq up\n qq ?", 3, 7);
        griddleIs("bars 0; bars", 3, 8);
        griddleIs("costs 0; bars 0; costs ?", 3, 17);
        CHECK.sentence("Terms 1", "4 a NUMBER that is not as told");
        griddleIs("cake a plain wide 0", 4, 18);
        griddleIs("cake a plain wide 31up", 4, 18);
        griddleIs("cake a plain wide 1 up; cake b plain wide 00", 4, 42);
        planIs("turn 1; turn 0", 4, 13);
        planIs("turn 3", 4, 5);
        CHECK.due("no cakes, no turns", Check.plan(new HotCakes(), "turn 1;"), 4 + 16 * 5);
        griddleIs("bars 0; costs 9999;", 0, 0);
    }

    private static void oneTooMany() {
        CHECK.sentence("Terms 1", "5 one too many: the words cake of a sixth");
        griddleIs(FIVE + "cake", 5, FIVE.length());
        griddleIs(FIVE + "  cake ?", 5, FIVE.length() + 2);
        griddleIs(FIVE + "bars 1; cake a", 5, FIVE.length() + 8);
        CHECK.sentence("Terms 1", "the first word of a 41st line of a PLAN");
        planIs("turn 1;".repeat(40) + "turn", 5, 280);
        planIs("turn 1;".repeat(40) + " \n turn 9", 5, 283);
        HotCakes x = Check.with(TWO);
        Check.plan(x, "turn 1;".repeat(40));
        CHECK.due("the lines of the plan ahead are not counted", Check.plan(x, "turn 1;".repeat(40)), 0);
    }

    // ---- what comes of it ----

    /** Two cakes with all there can be, behind a turn. */
    private static HotCakes busy() {
        HotCakes x = Check.with("cake pp browned wide 7 up ; cake qq glazed wide 4 down ; bars take = 2; costs 3;");
        Check.plan(x, "turn 1; turn 2;");
        Check.wish(x, "qq up pp down");
        x.turn(1);
        x.see(0, 1, true);
        x.mark(0, false);
        x.mark(3, false);
        return x;
    }

    private static HotCakes busyThen(String griddle) {
        HotCakes x = busy();
        CHECK.due("griddle", Check.griddle(x, griddle), 0);
        return x;
    }

    private static void fromThenOn() {
        String next = "cake a browned wide 9 down ; cake b browned wide 2 up ; cake c plain wide 5 up ;";
        CHECK.sentence("Terms 1, promise 3", "Without a FAULT a GRIDDLE is the GRIDDLE from then on");
        HotCakes x = busyThen(next);
        CHECK.due("its cakes", x.count(0), 3);
        CHECK.due("their widths", x.cake(0, 1) * 100 + x.cake(1, 1) * 10 + x.cake(2, 1), 925);
        CHECK.due("their kinds", x.cake(0, 0) * 100 + x.cake(1, 0) * 10 + x.cake(2, 0), 110);
        CHECK.due("its laws: all can be", x.count(4), 7);
        CHECK.due("for 1", x.cost(2), 1);
        CHECK.due("its names", Check.wish(x, "c up b up a up"), 0);
        CHECK.due("not those ahead", Check.wish(x, "pp up"), 2);
        CHECK.sentence("Terms 1, promise 3", "the STACK as told");
        CHECK.due("in its order", busyThen(next).there(0) * 10 + busyThen(next).there(2), 2);
        CHECK.due("lying so", x.cake(0, 3) * 10 + x.cake(1, 3), 1);
        String up = "cake a browned wide 1 up;";
        for (String first : new String[] {up, up + " ?", up + " bars"}) {
            HotCakes down = new HotCakes();
            Check.griddle(down, first);
            Check.griddle(down, "cake a browned wide 1 down;");
            CHECK.due("down, whatever was read ahead", down.cake(0, 3) * 10 + down.nth(), 0);
            Check.griddle(down, "cake a browned wide 1 down; costs 2;");
            CHECK.due("and once more", down.cake(0, 3) * 10 + down.nth(), 0);
        }
        HotCakes same = busyThen("cake pp browned wide 7 up ; cake qq glazed wide 4 down ;");
        CHECK.due("also where the same one is told again", same.cake(0, 3), 1);
        CHECK.sentence("Terms 1, promise 3", "no turns");
        CHECK.due("count(2)", busyThen(next).count(2), 0);
        CHECK.due("count(3)", busyThen(next).count(3), 0);
        CHECK.sentence("Terms 1, promise 3", "no PLAN");
        CHECK.due("count(5)", busyThen(next).count(5), 0);
        CHECK.due("judged(2)", busyThen(next).judged(2), 0);
        CHECK.sentence("Terms 1, promise 3", "no WISH");
        CHECK.due("count(6)", busyThen(next).count(6), 0);
        CHECK.due("far()", busyThen(next).far(), -1);
        CHECK.due("also where there are no cakes", busyThen("").far(), -1);
        CHECK.sentence("Terms 1, promise 3", "nothing SEEN");
        CHECK.due("count(7)", busyThen(next).count(7), 0);
        CHECK.due("fit()", busyThen(next).fit(), 24);
        CHECK.sentence("Terms 1, promise 3", "nothing can be undone");
        CHECK.due("count(8)", busyThen(next).count(8), 0);
        CHECK.due("undo()", busyThen(next).undo(), false);
        CHECK.sentence("Terms 1, promise 3", "no MARK is there");
        HotCakes marked = busyThen(next);
        for (int mark = 0; mark < 4; mark++) {
            CHECK.due("mark " + mark, marked.mark(mark, true), false);
        }
    }

    /** What was read ahead takes no room of what is read now, however much it was, with a fault or without. */
    private static void againAndAgain() {
        CHECK.sentence("Terms 1, promise 3, again and again", "Without a FAULT a GRIDDLE is the GRIDDLE from then on");
        HotCakes x = new HotCakes();
        for (int i = 0; i < 10; i++) {
            String law = (i % 9 + 1) + "+1-1".repeat(220);
            CHECK.due("a long law", Check.griddle(x, "cake a plain wide 1 up; costs " + law + ";"), 0);
            CHECK.due("says what it says", x.cost(1), i % 9 + 1);
        }
        HotCakes y = new HotCakes();
        for (int i = 0; i < 80; i++) {
            String text = "cake a plain wide 1 up; costs " + (i % 9 + 1) + ";";
            boolean spoilt = i % 4 == 3;
            CHECK.due("a short law", Check.griddle(y, spoilt ? text + "?" : text), spoilt ? 1 + 16 * text.length() : 0);
            CHECK.due("says what it says", y.cost(1), (spoilt ? i - 1 : i) % 9 + 1);
        }
    }

    private static void refused(String how, HotCakes x, int fault, String before) {
        CHECK.due(how + " has a fault", fault > 0, true);
        CHECK.due("all stays behind " + how, Check.state(x).equals(before), true);
    }

    private static void allStays() {
        CHECK.sentence("promises 3 to 5", "0, or its FAULT (all stays then)");
        HotCakes x = busy();
        String before = Check.state(x);
        refused("a griddle that ends too early", x, Check.griddle(x, "cake a plain wide 1 up; bars 0; costs 9"), before);
        refused("a griddle with a second law", x, Check.griddle(x, "bars 0; costs 1; bars 1;"), before);
        refused("a griddle of six", x, Check.griddle(x, FIVE + "cake f plain wide 6 up;"), before);
        refused("a plan that ends too early", x, Check.plan(x, "turn 2; turn 2; turn 1; turn 1"), before);
        refused("a plan of a turn that is none", x, Check.plan(x, "turn 2; turn 2; turn 3;"), before);
        refused("a plan of 41", x, Check.plan(x, "turn 1;".repeat(41)), before);
        refused("a wish of one", x, Check.wish(x, "pp up"), before);
        refused("a wish of a third", x, Check.wish(x, "pp up qq up rr up"), before);
        CHECK.due("the plan", x.count(5) * 10 + x.judged(0), 21);
        CHECK.due("the wish: by 2 alone, which is barred", x.far(), -1);
        CHECK.due("the names", Check.wish(x, "pp up qq down"), 0);
        CHECK.due("another wish", x.far(), 1);
        CHECK.due("the marks", x.mark(0, true) && x.mark(3, true) && !x.mark(1, true), true);
        HotCakes y = busy();
        Check.griddle(y, "cake a plain wide 1 up; ?");
        CHECK.due("what can be undone", y.undo() && y.cake(0, 3) == 1, true);
        CHECK.due("what was seen", y.fit(), 4);
        HotCakes z = Check.with(TWO);
        Check.wish(z, "pp up ?");
        CHECK.due("no wish stays none", z.far() * 10 + z.count(6), -10);
        Check.plan(z, "turn 1; ?");
        CHECK.due("no plan stays none", z.count(5), 0);
    }

    private static void instead() {
        CHECK.sentence("Terms 1, promise 4", "A PLAN is the PLAN");
        HotCakes x = busy();
        Check.plan(x, "turn 1; turn 1; turn 1;");
        CHECK.due("a longer one", x.count(5) * 10 + x.judged(2), 39);
        Check.plan(x, "turn 2;");
        CHECK.due("a shorter one", x.count(5) * 10 + x.judged(0), 10);
        Check.plan(x, "");
        CHECK.due("an empty one", x.count(5) * 10 + x.judged(2), 0);
        CHECK.due("all else stays", x.count(2) * 1000 + x.count(6) * 100 + x.count(7) * 10 + x.count(8), 1211);
        CHECK.due("the marks too", x.mark(0, true), true);
        CHECK.sentence("Terms 1, promise 5", "a WISH the WISH");
        HotCakes y = busy();
        CHECK.due("the one ahead", y.far(), -1);
        Check.wish(y, "pp up qq down");
        CHECK.due("another one", y.far(), 1);
        Check.wish(y, "pp down qq down");
        CHECK.due("a third one", y.far(), 0);
        CHECK.due("all else stays", y.count(2) * 1000 + y.count(5) * 100 + y.count(7) * 10 + y.count(8), 1211);
        CHECK.due("the marks too", y.mark(3, true), true);
    }
}
