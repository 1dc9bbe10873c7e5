/**
 * "Terms" 2 and promises 6 to 13, 46 and 47, sentence by sentence: too little, too much, nothing, all, what is
 * refused. The words of the document stand ahead of their tests.
 */
public final class TurningEdgesTest {
    private static final Check CHECK = new Check();
    private static final int LEAST = Integer.MIN_VALUE;
    private static final int GREATEST = Integer.MAX_VALUE;
    private static final String FOUR =
        "cake a browned wide 3 up; cake b plain wide 1 up; cake c heavy wide 30 down; cake d glazed wide 2 down; ";

    public static void main(String[] args) {
        sides();
        cakes();
        places();
        turning();
        glazed();
        barred();
        costs();
        served();
        undoing();
        undone();
        allowed();
        judged();
        judgedLines();
        marks();
        marksHold();
        counts();
        countsMove();
        CHECK.end();
    }

    /** The cakes from the top down, each by its number and 1; behind it u, if it lies up. */
    private static String shape(HotCakes x) {
        StringBuilder text = new StringBuilder();
        for (int place = 0; x.there(place) >= 0; place++) {
            text.append(x.there(place) + 1).append(x.cake(x.there(place), 3) == 1 ? "u" : "");
        }
        return text.toString();
    }

    private static void shapeIs(String what, HotCakes x, String want) {
        CHECK.due(what + ": " + shape(x) + ", due is " + want, shape(x).equals(want), true);
    }

    // ---- cakes ----

    private static void sides() {
        CHECK.sentence("Terms 2", "A browned, a glazed CAKE has a SIDE: it lies up or down");
        shapeIs("browned", Check.with("cake a browned wide 1 up; cake b browned wide 2 down;"), "1u2");
        shapeIs("glazed", Check.with("cake a glazed wide 1 up; cake b glazed wide 2 down;"), "1u2");
        CHECK.sentence("Terms 2", "a plain, a heavy one has none (it always lies down, whatever is told)");
        HotCakes x = Check.with("cake a plain wide 1 up; cake b heavy wide 2 up; cake c plain wide 3 down;");
        shapeIs("told up", x, "123");
        for (int many = 1; many <= 3; many++) {
            x.turn(many);
        }
        shapeIs("turned", x, "312");
        Check.wish(x, "c up a up b up");
        CHECK.due("wished up", x.far(), 0);
        CHECK.due("seen up", x.lies(0, true) ? x.fit() : -9, 0);
    }

    private static void cakes() {
        CHECK.sentence("promise 6", "KIND (0 plain, 1 browned, 2 heavy, 3 glazed)");
        HotCakes x = Check.with(FOUR);
        CHECK.due("each", x.cake(1, 0) * 1000 + x.cake(0, 0) * 100 + x.cake(2, 0) * 10 + x.cake(3, 0), 123);
        CHECK.sentence("promise 6", "1: how wide");
        CHECK.due("the least", x.cake(1, 1), 1);
        CHECK.due("the greatest", x.cake(2, 1), 30);
        CHECK.sentence("promise 6", "2: its place (from the top, from 0)");
        CHECK.due("on top", x.cake(0, 2), 0);
        CHECK.due("the lowest", x.cake(3, 2), 3);
        x.turn(3);
        CHECK.due("now the third", x.cake(0, 2), 2);
        CHECK.due("now on top", x.cake(2, 2), 0);
        CHECK.sentence("promise 6", "3: 1 it lies up");
        CHECK.due("turned down", x.cake(0, 3), 0);
        x.turn(3);
        CHECK.due("turned up", x.cake(0, 3), 1);
        CHECK.due("without a side", x.cake(1, 3), 0);
        CHECK.sentence("promise 6", "NONE: others");
        for (int what = 0; what < 4; what++) {
            CHECK.due("cake 4, " + what, x.cake(4, what), -1);
            CHECK.due("cake -1, " + what, x.cake(-1, what), -1);
            CHECK.due("the greatest, " + what, x.cake(GREATEST, what), -1);
            CHECK.due("the least, " + what, x.cake(LEAST, what), -1);
            CHECK.due("of no cakes, " + what, new HotCakes().cake(0, what), -1);
        }
        for (int what : new int[] {-1, 4, 5, GREATEST, LEAST}) {
            CHECK.due("what " + what, x.cake(0, what), -1);
        }
        CHECK.due("the fifth of five", Check.with(Check.stack("plain", 1, 2, 3, 4, 9)).cake(4, 1), 9);
        CHECK.due("a sixth of five", Check.with(Check.stack("plain", 1, 2, 3, 4, 9)).cake(5, 1), -1);
    }

    private static void places() {
        CHECK.sentence("promise 7", "The CAKE at a place");
        HotCakes x = Check.with(FOUR);
        CHECK.due("place 0", x.there(0), 0);
        CHECK.due("place 3", x.there(3), 3);
        CHECK.sentence("promise 7", "NONE: others");
        for (int place : new int[] {-1, 4, 5, GREATEST, LEAST}) {
            CHECK.due("place " + place, x.there(place), -1);
        }
        CHECK.due("place 0 of no cakes", new HotCakes().there(0), -1);
        CHECK.due("place 4 of five", Check.with(Check.stack("plain", 1, 2, 3, 4, 9)).there(4), 4);
        HotCakes five = Check.with(Check.stack("plain", 1, 2, 3, 4, 9));
        for (int many = 1; many <= 5; many++) {
            five.turn(many);
            CHECK.due("place 5 of five", five.there(5), -1);
            CHECK.due("place -1 of five", five.there(-1), -1);
        }
    }

    // ---- turning ----

    private static void turning() {
        String five = Check.stack("browned", -1, 2, -3, 4, -5);
        CHECK.sentence("Terms 2", "TURN so many (1 to all) of the uppermost: they come to lie the other way round,"
            + " the lowest of them on top, those that have a SIDE the other way up");
        String[] want = {"123u45u", "2u13u45u", "32u145u", "4u32u15u", "54u32u1"};
        for (int many = 1; many <= 5; many++) {
            HotCakes x = Check.with(five);
            CHECK.due("turn(" + many + ")", x.turn(many), 1);
            shapeIs("turn(" + many + ")", x, want[many - 1]);
        }
        HotCakes mixed = Check.with(FOUR);
        mixed.turn(3);
        shapeIs("those without a side stay down", mixed, "3214");
        HotCakes one = Check.with("cake a browned wide 1 up;");
        CHECK.due("all of one", one.turn(1), 1);
        shapeIs("all of one", one, "1");
        CHECK.sentence("promise 8", "NONE: others");
        for (int many : new int[] {0, -1, 6, 7, 32, 33, GREATEST, LEAST}) {
            HotCakes x = Check.with(five);
            CHECK.due("turn(" + many + ")", x.turn(many), -1);
            shapeIs("all is as it was", x, "1u23u45u");
            CHECK.due("none was turned", x.count(2) + x.count(3) + x.count(8), 0);
        }
        HotCakes turned = Check.with(Check.stack("browned", 1, 2, 3) + "costs 5;");
        for (int many = 1; many <= 3; many++) {
            turned.turn(many);
            for (int none : new int[] {0, -1, 4, 5}) {
                CHECK.due("can(" + none + ") behind turns", turned.can(none), false);
                CHECK.due("turn(" + none + ") behind turns", turned.turn(none), -1);
                CHECK.due("cost(" + none + ") behind turns", turned.cost(none), -1);
                CHECK.due("without(" + none + ") behind turns", turned.without(none), -1);
                CHECK.due("ring(" + none + ", 1) behind turns", turned.ring(none, 1), -1);
                CHECK.due("ring(1, " + none + ") behind turns", turned.ring(1, none), -1);
            }
        }
        CHECK.due("1 of no cakes", new HotCakes().turn(1), -1);
        CHECK.due("0 of no cakes", new HotCakes().turn(0), -1);
        CHECK.due("2 of one", one.turn(2), -1);
        CHECK.sentence("promise 8", "NONE: [...] it can't be");
        HotCakes barred = Check.with(five + "bars take = 2; costs 7;");
        CHECK.due("barred", barred.turn(2), -1);
        shapeIs("all is as it was", barred, "1u23u45u");
        CHECK.due("none was turned", barred.count(2) + barred.count(3) + barred.count(8), 0);
        CHECK.sentence("promise 8", "TURN: what it costs");
        CHECK.due("another can be", barred.turn(3), 7);
    }

    private static void glazed() {
        CHECK.sentence("Terms 2", "It can't be if the lowest of those that are turned is glazed and there are others");
        HotCakes x = Check.with(Check.stack("glazed", 1, 2, 3));
        CHECK.due("with others", x.turn(2), -1);
        CHECK.due("with all others", x.turn(3), -1);
        CHECK.due("alone", x.turn(1), 1);
        CHECK.due("alone on the plate", Check.with("cake a glazed wide 1 up;").turn(1), 1);
        HotCakes y = Check.with("cake a plain wide 1 up; cake g glazed wide 2 up; cake b plain wide 3 up;");
        CHECK.due("it is the lowest", y.can(2), false);
        CHECK.due("it stays", y.can(1), true);
        CHECK.due("it is not the lowest", y.turn(3), 1);
        shapeIs("so it is turned, too", y, "321");
        CHECK.due("it is the lowest again", y.can(2), false);
        CHECK.due("browned, plain and heavy ones may be", Check.with("cake a heavy wide 1 up; cake b browned wide 2 up;"
            + "cake c plain wide 3 up; cake d heavy wide 4 up;").count(4), 15);
    }

    private static void barred() {
        CHECK.sentence("Terms 2", "or if the E of bars is not 0 (as it was ahead of it)");
        HotCakes x = Check.with(Check.stack("browned", 1, -2) + "bars brown;");
        CHECK.due("0 ahead of it, 1 behind it", x.turn(1), 1);
        CHECK.due("1 ahead of it, 0 behind it", x.turn(1), -1);
        CHECK.due("less than 0", Check.with("cake a plain wide 1 up; bars 0 - 1;").turn(1), -1);
        CHECK.due("much more than 1", Check.with("cake a plain wide 1 up; bars 9999;").turn(1), -1);
        CHECK.due("0", Check.with("cake a plain wide 1 up; bars 1 - 1;").turn(1), 1);
        CHECK.due("a glazed one alone can be barred", Check.with("cake a glazed wide 1 up; bars 1;").turn(1), -1);
    }

    private static void costs() {
        CHECK.sentence("Terms 2", "It costs the E of costs (1 to 9");
        String one = "cake a plain wide 1 up; costs ";
        CHECK.due("0", Check.with(one + "0;").turn(1), 1);
        CHECK.due("1", Check.with(one + "1;").turn(1), 1);
        CHECK.due("2", Check.with(one + "2;").turn(1), 2);
        CHECK.due("8", Check.with(one + "8;").turn(1), 8);
        CHECK.due("9", Check.with(one + "9;").turn(1), 9);
        CHECK.due("10", Check.with(one + "10;").turn(1), 9);
        CHECK.due("9999", Check.with(one + "9999;").turn(1), 9);
        CHECK.due("-1", Check.with(one + "0 - 1;").turn(1), 1);
        CHECK.due("-9999", Check.with(one + "0 - 9999;").turn(1), 1);
        CHECK.due("the least int", Check.with(one + "8*8*8*8*8*8*8*8*8*8*2;").turn(1), 1);
        CHECK.due("the greatest int", Check.with(one + "8*8*8*8*8*8*8*8*8*8*2 - 1;").turn(1), 9);
        CHECK.due("it is so for cost, too", Check.with(one + "0;").cost(1) * 10 + Check.with(one + "10;").cost(1), 19);
        CHECK.sentence("Terms 2", "as it was ahead of it)");
        HotCakes x = Check.with(Check.stack("browned", -1, -2) + "costs brown * 4;");
        CHECK.due("two up", x.turn(2), 8);
        CHECK.due("none up", x.turn(2), 1);
        CHECK.due("what there was", x.count(3), 9);
    }

    private static void served() {
        CHECK.sentence("Terms 2, promise 12", "SERVED is a STACK in which each CAKE is less wide than the one below it");
        CHECK.due("no cakes", new HotCakes().served(), true);
        CHECK.due("one", Check.with("cake a plain wide 30 up;").served(), true);
        CHECK.due("five", Check.with(Check.stack("plain", 1, 7, 8, 29, 30)).served(), true);
        CHECK.due("but the two on top", Check.with(Check.stack("plain", 7, 1, 8, 29, 30)).served(), false);
        CHECK.due("but the two lowest", Check.with(Check.stack("plain", 1, 7, 8, 30, 29)).served(), false);
        CHECK.due("the other way round", Check.with(Check.stack("plain", 30, 29, 8, 7, 1)).served(), false);
        CHECK.sentence("Terms 2, promise 12", "and all lie down");
        CHECK.due("all down", Check.with(Check.stack("glazed", 1, 2, 3, 4, 5)).served(), true);
        CHECK.due("the one on top is up", Check.with(Check.stack("glazed", -1, 2, 3, 4, 5)).served(), false);
        CHECK.due("the lowest is up", Check.with(Check.stack("browned", 1, 2, 3, 4, -5)).served(), false);
        CHECK.due("one alone is up", Check.with("cake a browned wide 1 up;").served(), false);
        CHECK.due("told up, without a side", Check.with(Check.stack("plain", -1, -2)).served(), true);
    }

    // ---- undone ----

    private static void undoing() {
        CHECK.sentence("promise 9", "false: nothing can be");
        CHECK.due("no cakes", new HotCakes().undo(), false);
        HotCakes x = Check.with(Check.stack("browned", 1, 2, 3) + "bars take = 3; costs take + 2;");
        CHECK.due("no turns yet", x.undo(), false);
        x.turn(3);
        x.turn(4);
        CHECK.due("what could not be turned can't be undone", x.undo(), false);
        x.turn(1);
        CHECK.due("one can", x.undo(), true);
        CHECK.due("but once", x.undo(), false);
        CHECK.sentence("Terms 2, promise 9", "UNDO: the last 16 TURNS");
        String[] shapes = new String[20];
        for (int i = 0; i < 17; i++) {
            shapes[i] = shape(x);
            x.turn(1 + i % 2);
            CHECK.due("what can be undone behind " + (i + 1), x.count(8), Math.min(16, i + 1));
        }
        for (int i = 16; i > 0; i--) {
            CHECK.due("undo, " + i + " stay", x.undo(), true);
            shapeIs("the stack ahead of it", x, shapes[i]);
            CHECK.due("count(2)", x.count(2), i);
            CHECK.due("count(3)", x.count(3), 3 * i + i / 2);
            CHECK.due("count(8)", x.count(8), i - 1);
        }
        CHECK.due("the 17th from the end", x.undo(), false);
        shapeIs("stays turned", x, shapes[1]);
        CHECK.due("it is a turn yet", x.count(2), 1);
    }

    private static void undone() {
        CHECK.sentence("Terms 2, promise 9", "one by one");
        HotCakes x = Check.with(Check.stack("browned", 1, 2, 3) + "costs take * 2;");
        x.turn(3);
        x.turn(2);
        x.undo();
        x.turn(1);
        CHECK.due("two can be", x.count(8), 2);
        CHECK.due("what they cost", x.count(3), 8);
        x.undo();
        shapeIs("the later one", x, "3u2u1u");
        CHECK.due("what stays cost", x.count(3), 6);
        x.undo();
        shapeIs("the first one", x, "123");
        CHECK.due("none are left", x.count(2) + x.count(3) + x.count(8), 0);
        for (int i = 0; i < 40; i++) {
            x.turn(2);
            x.turn(3);
            x.undo();
            x.undo();
        }
        CHECK.due("not worn by use", x.count(8) * 10 + x.count(2), 0);
        shapeIs("as it was", x, "123");
        HotCakes y = Check.with(Check.stack("browned", 1, 2) + "bars brown;");
        y.turn(1);
        CHECK.due("though it could not be turned back", y.can(1), false);
        CHECK.due("it is undone", y.undo(), true);
        shapeIs("as told", y, "12");
        HotCakes z = Check.with("cake g glazed wide 1 up; cake h heavy wide 5 down;");
        z.turn(2);
        CHECK.due("glazed ones, too", !z.can(2) && z.undo() && z.served() == false, true);
        shapeIs("as told", z, "1u2");
    }

    private static void allowed() {
        CHECK.sentence("promise 10", "Whether so many can be TURNED");
        HotCakes x = Check.with(FOUR + "bars take = 1; costs weight - 1;");
        CHECK.due("barred", x.can(1), false);
        CHECK.due("2 and 3 can be", x.can(2) && x.can(3), true);
        CHECK.due("glazed", x.can(4), false);
        CHECK.sentence("promise 10", "false: others");
        for (int many : new int[] {0, -1, 5, 6, 33, GREATEST, LEAST}) {
            CHECK.due("can(" + many + ")", x.can(many), false);
        }
        CHECK.due("1 of no cakes", new HotCakes().can(1), false);
        CHECK.due("0 of no cakes", new HotCakes().can(0), false);
        CHECK.sentence("promise 11", "What that costs, whether it can be or not");
        CHECK.due("barred", x.cost(1), 2);
        CHECK.due("it can be", x.cost(2), 3);
        CHECK.due("glazed", x.cost(4), 9);
        CHECK.sentence("promise 11", "NONE: others");
        for (int many : new int[] {0, -1, 5, 6, 33, GREATEST, LEAST}) {
            CHECK.due("cost(" + many + ")", x.cost(many), -1);
        }
        CHECK.due("1 of no cakes", new HotCakes().cost(1), -1);
        CHECK.due("0 of no cakes", new HotCakes().cost(0), -1);
        CHECK.due("neither turns", x.count(2) + x.there(0), 0);
    }

    // ---- judged ----

    private static HotCakes planned(String griddle, String plan) {
        HotCakes x = Check.with(griddle);
        CHECK.due("plan '" + plan + "'", Check.plan(x, plan), 0);
        return x;
    }

    private static void judgedIs(HotCakes x, int barred, int served, int cost) {
        CHECK.due("judged(0)", x.judged(0), barred);
        CHECK.due("judged(1)", x.judged(1), served);
        CHECK.due("judged(2)", x.judged(2), cost);
    }

    private static void judged() {
        CHECK.sentence("promise 13", "-2: others");
        for (int what : new int[] {-1, -2, 3, 4, GREATEST, LEAST}) {
            CHECK.due("judged(" + what + ")", new HotCakes().judged(what), -2);
        }
        CHECK.sentence("promise 13", "lines (NONE: none)");
        judgedIs(new HotCakes(), -1, -1, 0);
        judgedIs(Check.with(Check.stack("plain", 1, 2)), -1, -1, 0);
        judgedIs(planned(Check.stack("plain", 1, 2), ""), -1, -1, 0);
        judgedIs(planned(Check.stack("browned", -1, 2), "turn 2; turn 1;"), -1, -1, 2);
        CHECK.sentence("Terms 2", "JUDGED: the PLAN from the STACK as told");
        HotCakes x = planned(Check.stack("browned", -1, 2), "turn 1;");
        judgedIs(x, -1, 0, 1);
        x.turn(1);
        judgedIs(x, -1, 0, 1);
        x.turn(2);
        judgedIs(x, -1, 0, 1);
        shapeIs("it is not done", x, "2u1u");
    }

    private static void judgedLines() {
        CHECK.sentence("Terms 2", "the first line (from 0) that can't be (lines that can't be are left out)");
        String two = Check.stack("browned", 1, 2);
        judgedIs(planned(two + "bars take = 1;", "turn 1; turn 2;"), 0, 0, 1);
        judgedIs(planned(two + "bars take = 1;", "turn 2; turn 2; turn 1; turn 1;"), 2, 1, 2);
        judgedIs(planned(two + "bars take = 1;", "turn 2; ".repeat(39) + "turn 1;"), 39, 1, 39);
        judgedIs(planned(two + "bars 1;", "turn 1; turn 2;"), 0, 0, 0);
        // were the barred 1 done, 2 could be
        judgedIs(planned(Check.stack("browned", -1, -2) + "bars take = 1 or brown = 2;", "turn 1; turn 2;"), 0, -1, 0);
        CHECK.sentence("Terms 2", "the first line, whether it can be or not, behind which it is SERVED");
        judgedIs(planned(two, "turn 1; turn 1; turn 1; turn 1;"), -1, 1, 4);
        judgedIs(planned(two + "bars take = 1;", "turn 1; turn 1;"), 0, 0, 0);
        judgedIs(planned(Check.stack("browned", -1, 2) + "bars take = 2;", "turn 2; turn 1; turn 2;"), 0, 1, 1);
        judgedIs(planned(Check.stack("browned", -2, 1), "turn 2; ".repeat(39) + "turn 1;"), -1, 39, 40);
        CHECK.sentence("Terms 2", "what all that could be cost, together");
        judgedIs(planned(two + "bars take = 1 and brown = 1; costs take + 1 + brown;", "turn 1; turn 1; turn 2; turn 2;"),
            1, -1, 2 + 4 + 4);
        judgedIs(planned(two + "costs 9;", "turn 1; ".repeat(40)), -1, 1, 360);
    }

    // ---- marks ----

    private static void marks() {
        CHECK.sentence("promise 46", "A MARK is laid [...] true; false: none such");
        HotCakes x = Check.with(Check.stack("browned", 1, 2));
        for (int mark : new int[] {-1, 4, 5, GREATEST, LEAST}) {
            CHECK.due("laid on " + mark, x.mark(mark, false), false);
            CHECK.due("back to " + mark, x.mark(mark, true), false);
        }
        CHECK.sentence("promise 46", "false: [...] nothing is on it (back)");
        for (int mark = 0; mark < 4; mark++) {
            CHECK.due("back to " + mark, x.mark(mark, true), false);
            CHECK.due("back to it in no griddle", new HotCakes().mark(mark, true), false);
        }
        x.turn(1);
        CHECK.due("and what can be undone stays", !x.mark(0, true) && x.count(8) == 1, true);
        CHECK.sentence("promise 46", "A MARK is laid (back: gone back to): true");
        for (int mark = 0; mark < 4; mark++) {
            CHECK.due("laid on " + mark, x.mark(mark, false), true);
            CHECK.due("no other one is laid by it", mark < 3 && x.mark(mark + 1, true), false);
            CHECK.due("back to " + mark, x.mark(mark, true), true);
            CHECK.due("once more", x.mark(mark, true), true);
        }
        CHECK.due("without cakes, too", new HotCakes().mark(2, false), true);
        HotCakes y = new HotCakes();
        y.mark(1, false);
        CHECK.due("and back", y.mark(1, true), true);
    }

    private static void marksHold() {
        String two = Check.stack("browned", 1, 2, 3) + "costs take * 2;";
        CHECK.sentence("Terms 3", "MARKS 0 to 3 hold the STACK, how many TURNS there were, what these cost, what is SEEN");
        HotCakes x = Check.with(two);
        for (int mark = 0; mark < 4; mark++) {
            x.mark(mark, false);
            x.turn(mark % 3 + 1);
            x.see(mark % 3, mark % 3, true);
        }
        String[] shapes = {"123", "1u23", "2u13", "3u1u2"};
        int[] costs = {0, 2, 6, 12};
        int[] fits = {48, 16, 8, 8};
        for (int mark = 3; mark >= 0; mark--) {
            CHECK.due("back to " + mark, x.mark(mark, true), true);
            shapeIs("its stack", x, shapes[mark]);
            CHECK.due("its turns", x.count(2), mark);
            CHECK.due("their cost", x.count(3), costs[mark]);
            CHECK.due("what is seen", x.count(7), mark);
            CHECK.due("what fits it", x.fit(), fits[mark]);
        }
        for (int mark = 0; mark < 4; mark++) {
            x.mark(mark, true);
            shapeIs("forward again", x, shapes[mark]);
            CHECK.due("what is seen", x.count(7), mark);
            CHECK.due("what fits it", x.fit(), fits[mark]);
        }
        HotCakes full = Check.with(two);
        for (int i = 0; i < 8; i++) {
            full.lies(i % 3, true);
        }
        full.mark(0, false);
        CHECK.due("all 8 that are seen", full.mark(0, true) && full.count(7) == 8 && full.fit() == 6, true);
        CHECK.due("are full then, too", full.lies(0, true), false);
        HotCakes seen = Check.with(two);
        seen.mark(0, false);
        seen.see(0, 0, true);
        seen.lies(0, true);
        seen.mark(1, false);
        seen.mark(0, true);
        seen.see(1, 2, true);
        seen.see(0, 1, true);
        CHECK.due("other things are seen: one order", seen.fit(), 8);
        seen.mark(2, false);
        CHECK.due("then what was: 0 up on top", seen.mark(1, true) && seen.fit() == 8 && seen.see(0, 0, true), true);
        CHECK.due("on top it is", seen.fit(), 8);
        CHECK.due("then what was then: 1 2 0", seen.mark(2, true) && seen.see(2, 0, true) && seen.fit() == 8, true);
        CHECK.sentence("Terms 3", "(nothing can be undone when one is gone back to)");
        HotCakes y = Check.with(two);
        y.turn(1);
        y.mark(0, false);
        CHECK.due("laying one takes none of it", y.count(8), 1);
        y.turn(2);
        y.mark(0, true);
        CHECK.due("count(8)", y.count(8), 0);
        CHECK.due("undo()", y.undo(), false);
        shapeIs("all is as it was then", y, "1u23");
        y.turn(3);
        CHECK.due("what is turned then can be", y.undo() && !y.undo(), true);
        CHECK.sentence("Terms 3, promise 46, and nothing else",
            "hold the STACK, how many TURNS there were, what these cost, what is SEEN");
        Check.plan(y, "turn 1;");
        Check.wish(y, "a up b up c up");
        y.mark(0, true);
        CHECK.due("the plan and the wish stay", y.count(5) * 10 + y.count(6), 13);
        Check.feed(y, "cake");
        y.mark(0, true);
        CHECK.due("so does the tape", y.count(9), 4);
    }

    // ---- counts ----

    private static void counts() {
        CHECK.sentence("promise 47", "NONE for another what");
        for (int what : new int[] {-1, -2, 10, 11, GREATEST, LEAST}) {
            CHECK.due("count(" + what + ")", new HotCakes().count(what), -1);
            CHECK.due("count(" + what + ") of four", Check.with(FOUR).count(what), -1);
        }
        CHECK.sentence("promise 47", "0: CAKES");
        CHECK.due("none", new HotCakes().count(0), 0);
        CHECK.due("one", Check.with("cake a plain wide 1 up;").count(0), 1);
        CHECK.due("five", Check.with(Check.stack("plain", 1, 2, 3, 4, 5)).count(0), 5);
        CHECK.sentence("Terms 3, promise 47",
            "1: ALL STACKS [...] all orders of the CAKES, each that has a SIDE up or down");
        int[] orders = {1, 1, 2, 6, 24, 120};
        for (int cakes = 0; cakes <= 5; cakes++) {
            int[] wide = {5, 4, 3, 2, 1};
            int[] some = java.util.Arrays.copyOf(wide, cakes);
            CHECK.due("plain " + cakes, Check.with(Check.stack("plain", some)).count(1), orders[cakes]);
            CHECK.due("heavy " + cakes, Check.with(Check.stack("heavy", some)).count(1), orders[cakes]);
            CHECK.due("browned " + cakes, Check.with(Check.stack("browned", some)).count(1), orders[cakes] << cakes);
            CHECK.due("glazed " + cakes, Check.with(Check.stack("glazed", some)).count(1), orders[cakes] << cakes);
        }
        CHECK.due("two of four", Check.with(FOUR).count(1), 96);
        CHECK.due("bars take none of them", Check.with(FOUR + "bars 1;").count(1), 96);
        CHECK.sentence("promise 47", "4: TURNS that can be now, as bits (TURN 1: bit 0)");
        CHECK.due("no cakes", new HotCakes().count(4), 0);
        CHECK.due("none can be", Check.with(FOUR + "bars 1;").count(4), 0);
        CHECK.due("all of five", Check.with(Check.stack("plain", 1, 2, 3, 4, 5)).count(4), 31);
        CHECK.due("1 alone", Check.with(Check.stack("glazed", 1, 2, 3, 4, 5)).count(4), 1);
        CHECK.due("5 alone", Check.with(Check.stack("plain", 1, 2, 3, 4, 5) + "bars left;").count(4), 16);
        HotCakes x = Check.with(FOUR);
        CHECK.due("glazed below", x.count(4), 7);
        x.turn(1);
        x.turn(3);
        CHECK.due("now", x.count(4), 7);
        HotCakes y = Check.with(Check.stack("browned", -1, 2) + "bars brown;");
        CHECK.due("as it lies now", y.count(4), 0);
    }

    private static void countsMove() {
        HotCakes x = Check.with(FOUR + "bars take = 2; costs take * 3;");
        CHECK.sentence("promise 47", "2: TURNS there were, 3: what these cost, together");
        x.turn(1);
        x.turn(3);
        x.turn(2);
        x.turn(9);
        CHECK.due("what can't be is none", x.count(2) * 100 + x.count(3), 212);
        x.undo();
        CHECK.due("what is undone was none", x.count(2) * 100 + x.count(3), 103);
        x.mornings(1, 9, 0);
        x.chance(3, false);
        x.judged(0);
        x.again();
        x.ring(1, 3);
        CHECK.due("what is asked is none", x.count(2) * 100 + x.count(3), 103);
        CHECK.sentence("promise 47", "5: lines of the PLAN");
        CHECK.due("none", x.count(5), 0);
        Check.plan(x, "turn 2;");
        CHECK.due("one that can't be", x.count(5), 1);
        Check.plan(x, "turn 1;".repeat(40));
        CHECK.due("40", x.count(5), 40);
        CHECK.sentence("promise 47", "6: CAKES of the WISH");
        CHECK.due("none", x.count(6), 0);
        Check.wish(x, "a up b up c up d up");
        CHECK.due("all", x.count(6), 4);
        HotCakes none = new HotCakes();
        CHECK.due("a wish of none", none.wish() + none.count(6), 0);
        CHECK.sentence("promise 47", "7: SEEN");
        for (int i = 0; i < 10; i++) {
            CHECK.due("behind " + i, x.count(7), Math.min(8, i));
            x.see(0, 0, i % 2 == 0);
        }
        CHECK.sentence("promise 47", "8: what can be undone");
        CHECK.due("one", x.count(8), 1);
        x.undo();
        CHECK.due("none", x.count(8), 0);
        for (int i = 0; i < 20; i++) {
            x.turn(1);
        }
        CHECK.due("16 at most", x.count(8), 16);
        CHECK.sentence("promise 47", "9: signs on the TAPE");
        CHECK.due("none", x.count(9), 0);
        Check.feed(x, " ".repeat(1000));
        CHECK.due("1,000", x.count(9), 1000);
        Check.feed(x, "a");
        CHECK.due("1,000 at most", x.count(9), 1000);
        x.plan();
        CHECK.due("none when it is read", x.count(9), 0);
    }
}
