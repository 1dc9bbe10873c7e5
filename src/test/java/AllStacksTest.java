/** Promises 23 to 28 and 30 to 33: all stacks, how far they are, gaps between neighbours. */
public final class AllStacksTest {
    private static final Check CHECK = new Check();
    /** How many stacks of so many cakes need so many turns, as is known of pancakes, and of burnt ones. */
    private static final int[][] PLAIN = {{1}, {1}, {1, 1}, {1, 2, 2, 1}, {1, 3, 6, 11, 3}, {1, 4, 12, 35, 48, 20}};
    private static final int[][] BURNT = {{1}, {1, 1}, {1, 2, 2, 2, 1}, {1, 3, 6, 12, 18, 6, 2},
        {1, 4, 12, 36, 90, 124, 96, 18, 3}, {1, 5, 20, 80, 280, 680, 1214, 1127, 389, 40, 4}};

    public static void main(String[] args) {
        CHECK.promise(25, "spread");
        for (int cakes = 0; cakes < 6; cakes++) {
            int[] widths = {9, 3, 30, 4, 1};
            int[] some = new int[cakes];
            System.arraycopy(widths, 0, some, 0, cakes);
            known(Check.with(Check.stack("heavy", some)), PLAIN[cakes]);
            known(Check.with(Check.stack("browned", some)), BURNT[cakes]);
        }
        never();
        dear();
        numbers();
        pairs();
        gaps();
        CHECK.end();
    }

    private static void known(HotCakes x, int[] spread) {
        int far = spread.length - 1;
        int within = 0;
        for (int turns = 0; turns <= far; turns++) {
            within += spread[turns];
            CHECK.promise(25, "spread");
            CHECK.due("spread(" + turns + ")", x.spread(turns), spread[turns]);
            CHECK.promise(31, "reached");
            CHECK.due("reached(" + turns + ")", x.reached(turns), within);
        }
        CHECK.due("reached(60)", x.reached(60), within);
        CHECK.due("reached(61)", x.reached(61), -1);
        CHECK.due("reached(-1)", x.reached(-1), -1);
        CHECK.promise(25, "spread");
        CHECK.due("spread beyond", x.spread(far + 1), 0);
        CHECK.due("spread(60)", x.spread(60), 0);
        CHECK.due("spread(61)", x.spread(61), -1);
        CHECK.due("spread(-1)", x.spread(-1), -1);
        CHECK.promise(24, "hard");
        CHECK.due("hard(0)", x.hard(0), far);
        CHECK.due("hard(1)", x.hard(1), spread[far]);
        CHECK.due("hard(2)", x.hard(2), -1);
        CHECK.due("hard(-1)", x.hard(-1), -1);
        CHECK.promise(27, "rim");
        CHECK.due("rim()", x.rim(), far);
        CHECK.promise(23, "never");
        CHECK.due("never()", x.never(), 0);
        CHECK.promise(26, "dear");
        CHECK.due("dear()", x.dear(), far);
    }

    private static void never() {
        CHECK.promise(23, "never");
        String two = Check.stack("browned", 2, 1);
        CHECK.due("all barred: all but the served one", Check.with(two + "bars 1;").never(), 7);
        CHECK.due("without 2: but for two", Check.with(two + "bars take = 2;").never(), 6);
        // served: itself, 1 up on 2, both up, and by 2 to the first of these: 2 up on 1
        CHECK.due("none is turned where all are down", Check.with(two + "bars brown = 0;").never(), 4);
        CHECK.due("no cakes", new HotCakes().never(), 0);
        CHECK.promise(24, "hard");
        CHECK.due("all barred: hard(0)", Check.with(two + "bars 1;").hard(0), 0);
        CHECK.due("all barred: hard(1)", Check.with(two + "bars 1;").hard(1), 1);
        CHECK.due("without 2: hard(0)", Check.with(two + "bars take = 2;").hard(0), 1);
        CHECK.promise(25, "spread");
        CHECK.due("without 2: spread(1)", Check.with(two + "bars take = 2;").spread(1), 1);
        CHECK.promise(27, "rim");
        CHECK.due("all barred", Check.with(two + "bars 1;").rim(), 0);
        HotCakes x = Check.with(two + "bars take = 1 and brown = 0;");
        // 2 down, 1 down; by 2: 1 up, 2 up; by 1: 1 down, 2 up; by 2: 2 down, 1 up, which 1 can't turn
        CHECK.due("from the stack as it is", x.rim(), 3);
        x.turn(2);
        CHECK.due("one further on", x.rim(), 2);
        CHECK.due("with a glazed one", Check.with("cake a glazed wide 1 up; cake b plain wide 2 up; bars left = 0;").rim(), 1);
        CHECK.promise(31, "reached");
        CHECK.due("by none", x.reached(0), 1);
        CHECK.due("by one", x.reached(1), 3);
        CHECK.due("all barred", Check.with(two + "bars 1;").reached(60), 1);
        CHECK.due("without 2", Check.with(two + "bars take = 2;").reached(60), 2);
    }

    private static void dear() {
        CHECK.promise(26, "dear");
        CHECK.due("no cakes", new HotCakes().dear(), 0);
        CHECK.due("all barred", Check.with(Check.stack("plain", 2, 1) + "bars 1;").dear(), 0);
        CHECK.due("one turn of 7", Check.with(Check.stack("plain", 2, 1) + "costs 7;").dear(), 7);
        // the ring of 6: 2, 3, 2 for 7
        CHECK.due("the farthest of three", Check.with(Check.stack("plain", 1, 2, 3) + "costs take;").dear(), 7);
        // the ring of 8: half of it is 1, 2, 1, 2
        CHECK.due("the farthest of two", Check.with(Check.stack("browned", 1, 2) + "costs take;").dear(), 6);
        CHECK.due("those that never can be do not count",
            Check.with(Check.stack("browned", 1, 2) + "costs 9; bars take = 2;").dear(), 9);
    }

    private static void numbers() {
        CHECK.promise(28, "nth");
        CHECK.due("no cakes", new HotCakes().nth(), 0);
        CHECK.due("as told", Check.with(Check.stack("plain", 5, 1, 3)).nth(), 0);
        CHECK.due("told up, without a side", Check.with(Check.stack("plain", -5, -1, -3)).nth(), 0);
        CHECK.due("the lowest is up", Check.with(Check.stack("browned", 5, 1, -3)).nth(), 1);
        CHECK.due("the one on top is up", Check.with(Check.stack("browned", -5, 1, 3)).nth(), 4);
        HotCakes x = Check.with(Check.stack("browned", 5, 1, 3));
        x.turn(3);
        CHECK.due("the last of 48", x.nth(), 47);
        x.turn(1);
        CHECK.due("its top down", x.nth(), 43);
        HotCakes y = Check.with("cake a glazed wide 1 down; cake b plain wide 2 up; cake c browned wide 3 up;");
        CHECK.due("by sides alone, from the top", y.nth(), 1);
        y.turn(2);
        // b a c: two orders of 4 are ahead; a is up, c is up
        CHECK.due("third order", y.nth(), 2 * 4 + 3);
        y.turn(1);
        y.turn(3);
        // c a b: four orders are ahead; c is down, a is down
        CHECK.due("fifth order", y.nth(), 4 * 4);
    }

    private static void pairs() {
        CHECK.promise(30, "pairs");
        CHECK.due("no cakes", new HotCakes().pairs(), 0);
        CHECK.due("served", Check.with(Check.stack("plain", 1, 2, 30)).pairs(), 0);
        CHECK.due("all", Check.with(Check.stack("plain", 30, 20, 10, 5, 1)).pairs(), 10);
        CHECK.due("one", Check.with(Check.stack("browned", 1, 3, 2)).pairs(), 1);
        CHECK.due("two", Check.with(Check.stack("glazed", 3, 1, 2)).pairs(), 2);
        HotCakes x = Check.with(Check.stack("heavy", 3, 1, 2));
        x.turn(2);
        CHECK.due("as it is", x.pairs(), 1);
    }

    private static void gapsAre(String griddle, int gaps, boolean sharp) {
        HotCakes x = Check.with(griddle);
        CHECK.promise(32, "gaps");
        CHECK.due("gaps() of " + griddle, x.gaps(), gaps);
        CHECK.promise(33, "sharp");
        CHECK.due("sharp() of " + griddle, x.sharp(), sharp);
    }

    private static void gaps() {
        gapsAre("", 0, true);
        gapsAre(Check.stack("browned", 1, 2, 3), 0, true);
        gapsAre(Check.stack("browned", -1), 1, true);
        gapsAre(Check.stack("browned", 5, 9, 30), 0, true);
        gapsAre(Check.stack("browned", -1, 2), 1, true);
        gapsAre(Check.stack("browned", -2, -1), 1, true);
        gapsAre(Check.stack("browned", 2, 1), 2, false);
        gapsAre(Check.stack("browned", -1, -2), 2, false);
        gapsAre(Check.stack("browned", 1, -2), 2, false);
        gapsAre(Check.stack("browned", 1, 3, 2), 3, false);
        gapsAre(Check.stack("plain", 3, 2, 1), 1, true);
        gapsAre(Check.stack("plain", 1, 3, 2), 2, false);
        gapsAre(Check.stack("plain", 2, 1, 3), 1, true);
        gapsAre(Check.stack("plain", 2, 1, 3) + "bars 1;", 1, false);
        // of the one without a side it is never asked: 1 up may lie on 2, or below it
        gapsAre("cake a plain wide 1 up; cake b browned wide 2 down;", 0, true);
        gapsAre("cake b browned wide 2 up; cake a plain wide 1 up;", 1, true);
        gapsAre("cake b browned wide 2 down; cake a plain wide 1 up;", 2, true);
        gapsAre("cake a browned wide 1 up; cake b plain wide 2 up;", 1, true);
        gapsAre("cake a browned wide 1 down; cake b plain wide 2 up;", 0, true);
    }
}
