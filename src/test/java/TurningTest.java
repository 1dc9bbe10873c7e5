/** Promises 6 to 13, 46 and 47: by hand, undone, judged, marked, counted. */
public final class TurningTest {
    private static final Check CHECK = new Check();
    private static final String FOUR =
        "cake a browned wide 3 up; cake b plain wide 1 up; cake c heavy wide 30 down; cake d glazed wide 2 down; ";

    public static void main(String[] args) {
        cakes();
        turns();
        undone();
        allowed();
        serving();
        judging();
        marks();
        counts();
        CHECK.end();
    }

    /** The order from the top down, as one number: the number of each cake and 1. */
    private static int order(HotCakes x) {
        int order = 0;
        for (int place = 0; x.there(place) >= 0; place++) {
            order = order * 10 + x.there(place) + 1;
        }
        return order;
    }

    private static void cakes() {
        HotCakes x = Check.with(FOUR);
        int[][] want = {{1, 3, 0, 1}, {0, 1, 1, 0}, {2, 30, 2, 0}, {3, 2, 3, 0}};
        CHECK.promise(6, "cake");
        for (int cake = 0; cake < 4; cake++) {
            for (int what = 0; what < 4; what++) {
                CHECK.due("cake(" + cake + ", " + what + ")", x.cake(cake, what), want[cake][what]);
            }
            CHECK.due("cake(.., 4)", x.cake(cake, 4), -1);
            CHECK.due("cake(.., -1)", x.cake(cake, -1), -1);
        }
        CHECK.due("cake(4, 0)", x.cake(4, 0), -1);
        CHECK.due("cake(-1, 0)", x.cake(-1, 0), -1);
        x.turn(3);
        CHECK.due("its place behind a turn", x.cake(0, 2), 2);
        CHECK.due("how it lies behind a turn", x.cake(0, 3), 0);
        CHECK.due("as wide as ever", x.cake(0, 1), 3);
        CHECK.promise(7, "there");
        CHECK.due("there(0)", x.there(0), 2);
        CHECK.due("there(1)", x.there(1), 1);
        CHECK.due("there(3)", x.there(3), 3);
        CHECK.due("there(4)", x.there(4), -1);
        CHECK.due("there(-1)", x.there(-1), -1);
        CHECK.due("there(0) of none", new HotCakes().there(0), -1);
    }

    private static void turns() {
        CHECK.promise(8, "turn");
        HotCakes x = Check.with(FOUR + "costs take + brown;");
        CHECK.due("turn(0)", x.turn(0), -1);
        CHECK.due("turn(5)", x.turn(5), -1);
        CHECK.due("turn(-1)", x.turn(-1), -1);
        CHECK.due("the lowest is glazed", x.turn(4), -1);
        CHECK.due("all is as it was", order(x), 1234);
        CHECK.due("turn(2), the cost ahead of it", x.turn(2), 3);
        CHECK.due("the other way round", order(x), 2134);
        CHECK.due("the other way up", x.cake(0, 3), 0);
        CHECK.due("a plain one never is up", x.cake(1, 3), 0);
        CHECK.due("turn(3)", x.turn(3), 3);
        CHECK.due("the other way round again", order(x), 3124);
        CHECK.due("up again", x.cake(0, 3), 1);
        CHECK.due("a heavy one never is up", x.cake(2, 3), 0);
        CHECK.due("turn(1)", x.turn(1), 1);
        CHECK.due("alone without a side: as it was", order(x), 3124);
        CHECK.due("count(2)", x.count(2), 3);
        CHECK.due("count(3)", x.count(3), 7);
        HotCakes y = Check.with("cake g glazed wide 3 down; cake h glazed wide 4 up; ");
        CHECK.due("a glazed one alone", y.turn(1), 1);
        CHECK.due("is up", y.cake(0, 3), 1);
        CHECK.due("with another above", y.turn(2), -1);
        HotCakes z = Check.with(Check.stack("browned", -1, 2) + "bars brown;");
        CHECK.due("barred as it lies", z.turn(1), -1);
        CHECK.due("barred for all", z.turn(2), -1);
        HotCakes b = Check.with(Check.stack("browned", 1, -2) + "bars brown;");
        CHECK.due("not barred ahead of it", b.turn(1), 1);
        CHECK.due("barred then", b.turn(1), -1);
    }

    private static void undone() {
        CHECK.promise(9, "undo");
        HotCakes x = Check.with(FOUR + "costs take;");
        CHECK.due("nothing", x.undo(), false);
        x.turn(3);
        x.turn(2);
        x.turn(4);
        x.turn(1);
        int order = order(x);
        CHECK.due("count(8)", x.count(8), 3);
        CHECK.due("the last one", x.undo(), true);
        CHECK.due("alone it moves none", order(x), order);
        CHECK.due("count(2)", x.count(2), 2);
        CHECK.due("count(3)", x.count(3), 5);
        CHECK.due("the one ahead", x.undo(), true);
        CHECK.due("is undone", order(x), 3214);
        CHECK.due("the first one", x.undo(), true);
        CHECK.due("all is as told", order(x), 1234);
        CHECK.due("and lies so", x.cake(0, 3), 1);
        CHECK.due("none costs now", x.count(3), 0);
        CHECK.due("no more", x.undo(), false);
        HotCakes y = Check.with(Check.stack("browned", 1, 2, 3) + "costs take;");
        for (int i = 0; i < 19; i++) {
            y.turn(2 + i % 2);
        }
        CHECK.due("16 at most", y.count(8), 16);
        for (int i = 0; i < 16; i++) {
            CHECK.due("the last 16", y.undo(), true);
        }
        CHECK.due("a 17th", y.undo(), false);
        CHECK.due("3 turns stay", y.count(2), 3);
        CHECK.due("so do their costs", y.count(3), 7);
        HotCakes z = Check.with(Check.stack("browned", 1, 2, 3));
        for (int i = 0; i < 3; i++) {
            z.turn(2 + i % 2);
        }
        CHECK.due("the stack of the 3 turns", order(y), order(z));
        HotCakes b = Check.with(Check.stack("browned", 1, 2) + "bars brown;");
        b.turn(1);
        CHECK.due("what bars would bar is undone", b.undo() && b.cake(0, 3) == 0, true);
    }

    private static void allowed() {
        HotCakes x = Check.with(FOUR + "bars take = 1; costs weight - 1;");
        CHECK.promise(10, "can");
        boolean[] can = {false, false, true, true, false, false};
        for (int many = 0; many < 6; many++) {
            CHECK.due("can(" + many + ")", x.can(many), can[many]);
        }
        CHECK.due("can(-1)", x.can(-1), false);
        CHECK.due("can(1) of none", new HotCakes().can(1), false);
        CHECK.promise(11, "cost");
        int[] cost = {-1, 2, 3, 9, 9, -1};
        for (int many = 0; many < 6; many++) {
            CHECK.due("cost(" + many + "), can be or not", x.cost(many), cost[many]);
        }
        CHECK.due("cost(-7)", x.cost(-7), -1);
        CHECK.due("cost(1) of none", new HotCakes().cost(1), -1);
        CHECK.due("without costs", Check.with(FOUR).cost(3), 1);
    }

    private static void serving() {
        CHECK.promise(12, "served");
        CHECK.due("no cakes", new HotCakes().served(), true);
        CHECK.due("in order", Check.with(Check.stack("browned", 1, 2, 9)).served(), true);
        CHECK.due("one is up", Check.with(Check.stack("browned", 1, -2, 9)).served(), false);
        CHECK.due("the last one is up", Check.with(Check.stack("browned", 1, 2, -9)).served(), false);
        CHECK.due("not in order", Check.with(Check.stack("browned", 1, 9, 2)).served(), false);
        CHECK.due("told up without a side", Check.with(Check.stack("heavy", -1, -2, -9)).served(), true);
        HotCakes x = Check.with(Check.stack("plain", 2, 1));
        x.turn(2);
        CHECK.due("turned so", x.served(), true);
    }

    private static void judging() {
        CHECK.promise(13, "judged");
        HotCakes x = Check.with(Check.stack("plain", 1, 2) + "bars take = 2; costs take * 4;");
        CHECK.due("no lines: none barred", x.judged(0), -1);
        CHECK.due("no lines: not behind one", x.judged(1), -1);
        CHECK.due("no lines: no cost", x.judged(2), 0);
        Check.plan(x, "turn 2; turn 1; turn 2; turn 1;");
        CHECK.due("the first that can't be", x.judged(0), 0);
        CHECK.due("it is served behind it all the same", x.judged(1), 0);
        CHECK.due("what those cost that can be", x.judged(2), 8);
        CHECK.due("judged(3)", x.judged(3), -2);
        CHECK.due("judged(-1)", x.judged(-1), -2);
        HotCakes y = Check.with(Check.stack("browned", 2, -1) + "bars take = 1 and brown; costs take;");
        Check.plan(y, "turn 1; turn 1; turn 2; turn 1; turn 2; turn 2;");
        // 2d 1u; 2u 1u; (barred); 1d 2d: served; 1u 2d; 2u 1d; 1u 2d
        CHECK.due("the second one can't be", y.judged(0), 1);
        CHECK.due("served behind the third", y.judged(1), 2);
        CHECK.due("cost of all that can be", y.judged(2), 1 + 2 + 1 + 2 + 2);
        y.turn(1);
        CHECK.due("from the stack as told", y.judged(1), 2);
        Check.plan(y, "turn 1;");
        CHECK.due("all can be", y.judged(0), -1);
        CHECK.due("never served", y.judged(1), -1);
    }

    private static void marks() {
        CHECK.promise(46, "mark");
        HotCakes x = Check.with(FOUR + "costs take;");
        CHECK.due("nothing on it", x.mark(0, true), false);
        CHECK.due("none such: 4", x.mark(4, false), false);
        CHECK.due("none such: -1", x.mark(-1, false), false);
        CHECK.due("back, none such: 4", x.mark(4, true), false);
        CHECK.due("back, none such: -1", x.mark(-1, true), false);
        x.turn(3);
        x.see(1, 2, true);
        CHECK.due("laid", x.mark(0, false), true);
        CHECK.due("laying leaves what can be undone", x.count(8), 1);
        x.turn(2);
        x.see(0, 0, false);
        x.lies(0, true);
        Check.plan(x, "turn 1;");
        Check.wish(x, "d up c up b up a up");
        CHECK.due("another one", x.mark(3, false), true);
        CHECK.due("gone back", x.mark(0, true), true);
        CHECK.due("the stack", order(x), 3214);
        CHECK.due("its turns", x.count(2), 1);
        CHECK.due("their costs", x.count(3), 3);
        CHECK.due("what is seen", x.count(7), 1);
        CHECK.due("and what it tells: one of six orders, sides of four", x.fit(), 6 * 4);
        CHECK.due("nothing can be undone", x.undo(), false);
        CHECK.due("count(8)", x.count(8), 0);
        CHECK.due("the plan stays", x.count(5), 1);
        CHECK.due("the wish stays", x.count(6), 4);
        x.turn(1);
        CHECK.due("the later one", x.mark(3, true), true);
        CHECK.due("its stack", order(x), 2314);
        CHECK.due("its seen", x.count(7), 3);
        CHECK.due("its turns", x.count(2), 2);
        x.see(2, 2, true);
        CHECK.due("back a second time", x.mark(0, true), true);
        CHECK.due("as it was", order(x) == 3214 && x.count(7) == 1, true);
        CHECK.due("other marks stay empty", x.mark(1, true), false);
        CHECK.due("laid over", x.mark(3, false) && x.mark(3, true) && x.count(2) == 1, true);
        HotCakes y = Check.with(Check.stack("browned", 1, 2));
        y.mark(0, false);
        y.lies(0, true);
        y.see(0, 1, true);
        y.mark(1, false);
        y.mark(0, true);
        CHECK.due("none was seen then", y.fit(), 8);
        y.see(1, 1, true);
        CHECK.due("other things are seen now", y.fit(), 4);
        y.mark(1, true);
        CHECK.due("what was seen then", y.fit(), 2);
        CHECK.due("and that was on top", y.see(1, 0, false) && y.fit() == 0, true);
    }

    private static void counts() {
        CHECK.promise(47, "count");
        HotCakes x = Check.with(FOUR + "bars take = 2; costs take;");
        Check.plan(x, "turn 1; turn 4; turn 2;");
        Check.wish(x, "d up c up b up a up");
        x.turn(1);
        x.turn(3);
        x.undo();
        x.turn(3);
        x.lies(0, false);
        x.feed('a', 0, 0);
        int[] want = {4, 24 * 4, 2, 4, 1 + 4, 3, 4, 1, 2, 1};
        for (int what = 0; what < 10; what++) {
            CHECK.due("count(" + what + ")", x.count(what), want[what]);
        }
        CHECK.due("count(10)", x.count(10), -1);
        CHECK.due("count(-1)", x.count(-1), -1);
        CHECK.due("all of 5 browned", Check.with(Check.stack("glazed", 1, 2, 3, 4, 5)).count(1), 3840);
        CHECK.due("all of 5 plain", Check.with(Check.stack("plain", 1, 2, 3, 4, 5)).count(1), 120);
        CHECK.due("all turns can be", Check.with(Check.stack("heavy", 1, 2, 3, 4, 5)).count(4), 31);
        CHECK.due("none can be", Check.with(Check.stack("heavy", 1, 2) + "bars 1;").count(4), 0);
        CHECK.due("where glazed ones are lowest", Check.with(Check.stack("glazed", 1, 2, 3)).count(4), 1);
    }
}
