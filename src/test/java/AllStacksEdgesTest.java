/**
 * "Terms" 3 as far as promises 23 to 28 and 30 to 33 go, sentence by sentence: none, all, the first, the last, what
 * is refused. The words of the document stand ahead of their tests.
 */
public final class AllStacksEdgesTest {
    private static final Check CHECK = new Check();
    private static final int LEAST = Integer.MIN_VALUE;
    private static final int GREATEST = Integer.MAX_VALUE;
    /** None that lies down is turned alone: see FewestEdgesTest, 4 of the 8 stacks of two can be served, by 0, 1, 1, 2. */
    private static final String ONE_WAY = "bars take = 1 and brown = 0;";

    public static void main(String[] args) {
        never();
        hard();
        spread();
        farther();
        dear();
        reached();
        rim();
        nth();
        pairs();
        gapsOfNeighbours();
        gapsOnThePlate();
        gapsAndSides();
        sharp();
        CHECK.end();
    }

    private static HotCakes two(int top, int below, String law) {
        return Check.with(Check.stack("browned", top, below) + law);
    }

    private static void never() {
        CHECK.sentence("Terms 3, promise 23", "NEVER: how many of them can never be SERVED");
        CHECK.due("no cakes", new HotCakes().never(), 0);
        CHECK.due("one", Check.with(Check.stack("browned", -1)).never(), 0);
        CHECK.due("one, barred: all but the served one", Check.with(Check.stack("browned", -1) + "bars 1;").never(), 1);
        CHECK.due("five", Check.with(Check.stack("browned", 5, 4, 3, 2, 1)).never(), 0);
        CHECK.due("five, barred: all but the served one",
            Check.with(Check.stack("browned", 5, 4, 3, 2, 1) + "bars 1;").never(), 3839);
        CHECK.due("half of them", two(1, 2, ONE_WAY).never(), 4);
        CHECK.due("wherever the stack is", two(2, 1, ONE_WAY).never(), 4);
        CHECK.due("from them, not to them", Check.with("cake a glazed wide 1 down; cake b plain wide 2 down;").never(), 2);
        HotCakes x = two(1, 2, ONE_WAY);
        x.turn(2);
        x.turn(1);
        CHECK.due("behind turns as ahead", x.never(), 4);
        Check.griddle(x, Check.stack("browned", 1, 2));
        CHECK.due("on another griddle", x.never(), 0);
    }

    private static void hard() {
        CHECK.sentence("promise 24", "NONE: others");
        for (int what : new int[] {-1, -2, 2, 3, GREATEST, LEAST}) {
            CHECK.due("hard(" + what + ")", two(1, 2, "").hard(what), -1);
            CHECK.due("hard(" + what + ") of none", new HotCakes().hard(what), -1);
        }
        CHECK.sentence("Terms 3, promise 24",
            "HARD: the most TURNS that any of the others needs at the least; how many need so many");
        CHECK.due("no cakes", new HotCakes().hard(0) * 10 + new HotCakes().hard(1), 1);
        CHECK.due("all barred: the served one", two(2, 1, "bars 1;").hard(0) * 10 + two(2, 1, "bars 1;").hard(1), 1);
        CHECK.due("two", two(2, 1, "").hard(0) * 10 + two(2, 1, "").hard(1), 41);
        CHECK.due("one way: those that never can be do not count",
            two(2, 1, ONE_WAY).hard(0) * 10 + two(2, 1, ONE_WAY).hard(1), 21);
        HotCakes three = Check.with(Check.stack("browned", 1, 2, 3));
        CHECK.due("three", three.hard(0) * 10 + three.hard(1), 62);
        HotCakes told = Check.with(Check.stack("plain", 2, 1));
        CHECK.due("the one as told, the first of all", told.hard(0) * 10 + told.hard(1), 11);
    }

    private static void spread() {
        CHECK.sentence("Terms 3, promise 25", "NONE: others [...] SPREAD of a number (0 to 60)");
        for (int turns : new int[] {-1, -2, 61, 62, GREATEST, LEAST}) {
            CHECK.due("spread(" + turns + ")", two(1, 2, "").spread(turns), -1);
            CHECK.due("spread(" + turns + ") of none", new HotCakes().spread(turns), -1);
        }
        CHECK.sentence("Terms 3, promise 25", "SPREAD of a number (0 to 60): how many need just so many");
        CHECK.due("no cakes, 0", new HotCakes().spread(0), 1);
        CHECK.due("no cakes, 1", new HotCakes().spread(1), 0);
        CHECK.due("no cakes, 60", new HotCakes().spread(60), 0);
        CHECK.due("the served one alone", two(1, 2, "").spread(0), 1);
        int[] oneWay = {1, 2, 1, 0};
        for (int turns = 0; turns < 4; turns++) {
            CHECK.due("one way, " + turns, two(1, 2, ONE_WAY).spread(turns), oneWay[turns]);
        }
        CHECK.due("those that never can be are at none of them", two(1, 2, "bars 1;").spread(60), 0);
    }

    /** Where 60 is not far enough. */
    private static void farther() {
        HotCakes x = Extremes.far61("costs 9;");
        CHECK.sentence("Terms 3, promise 25, where some need more",
            "SPREAD of a number (0 to 60): how many need just so many");
        CHECK.due("spread(60)", x.spread(60), 2);
        CHECK.due("spread(61)", x.spread(61), -1);
        CHECK.sentence("Terms 3, promise 24, where it is more than 60",
            "HARD: the most TURNS that any of the others needs at the least");
        CHECK.due("hard(0)", x.hard(0), 61);
        CHECK.due("hard(1)", x.hard(1), 1);
        CHECK.due("never", x.never(), 1928);
        CHECK.sentence("Terms 3, promise 26, where it is 61 turns of 9",
            "DEAR: the most that any of those that can be SERVED costs at the least");
        CHECK.due("dear()", x.dear(), 549);
        CHECK.sentence("Terms 3, promise 31, where there are more", "by so many (0 to 60) TURNS, or fewer");
        CHECK.due("reached(58)", x.reached(58), 3810);
        CHECK.due("reached(60)", x.reached(60), 3821);
        CHECK.due("reached(61)", x.reached(61), -1);
        CHECK.sentence("Terms 3, promise 27, where it is more than 60",
            "RIM: by how many, at the least, one comes to the farthest");
        CHECK.due("rim()", x.rim(), 64);
    }

    private static void dear() {
        CHECK.sentence("Terms 3, promise 26", "DEAR: the most that any of those that can be SERVED costs at the least");
        CHECK.due("no cakes", new HotCakes().dear(), 0);
        CHECK.due("one", Check.with(Check.stack("browned", 1) + "costs 9;").dear(), 9);
        CHECK.due("one without a side", Check.with(Check.stack("plain", 1) + "costs 9;").dear(), 0);
        CHECK.due("all barred", two(2, 1, "costs 9; bars 1;").dear(), 0);
        CHECK.due("the one as told, the first of all", Check.with(Check.stack("plain", 2, 1) + "costs 7;").dear(), 7);
        CHECK.due("one way", two(2, 1, "costs 9;" + ONE_WAY).dear(), 18);
        CHECK.due("wherever the stack is", two(1, 2, "costs 3;").dear(), 12);
        CHECK.due("not for the fewest turns",
            Check.with(Check.stack("plain", 1, 2, 3) + "costs 1 + 8 * (weight = 3);").dear(), 5);
    }

    private static void reached() {
        CHECK.sentence("Terms 3, promise 31", "NONE: others [...] by so many (0 to 60) TURNS");
        for (int turns : new int[] {-1, -2, 61, 62, GREATEST, LEAST}) {
            CHECK.due("reached(" + turns + ")", two(1, 2, "").reached(turns), -1);
            CHECK.due("reached(" + turns + ") of none", new HotCakes().reached(turns), -1);
        }
        CHECK.sentence("Terms 3, promise 31", "by so many (0 to 60) TURNS, or fewer (itself, too)");
        CHECK.due("no cakes, 0", new HotCakes().reached(0), 1);
        CHECK.due("no cakes, 60", new HotCakes().reached(60), 1);
        CHECK.due("all barred", two(1, 2, "bars 1;").reached(60), 1);
        CHECK.due("1 of plain ones is itself", Check.with(Check.stack("plain", 1, 2)).reached(1), 2);
        CHECK.sentence("Terms 3, promise 31", "REACHED: how many can be come to from the STACK");
        int[] served = {1, 2, 3, 4, 4};
        int[] other = {1, 3, 5, 7, 8};
        for (int turns = 0; turns < 5; turns++) {
            CHECK.due("from 1 2, one way, " + turns, two(1, 2, ONE_WAY).reached(turns), served[turns]);
            CHECK.due("from 2u 1, one way, " + turns, two(-2, 1, ONE_WAY).reached(turns), other[turns]);
        }
        HotCakes x = two(-2, 1, ONE_WAY);
        x.turn(2);
        x.turn(1);
        CHECK.due("as it is", x.reached(60), 4);
        x.undo();
        CHECK.due("as it was", x.reached(60), 8);
    }

    private static void rim() {
        CHECK.sentence("Terms 3, promise 27",
            "RIM: by how many, at the least, one comes to the farthest that can be come to");
        CHECK.due("no cakes", new HotCakes().rim(), 0);
        CHECK.due("one without a side", Check.with(Check.stack("plain", 1)).rim(), 0);
        CHECK.due("one", Check.with(Check.stack("browned", 1)).rim(), 1);
        CHECK.due("all barred", two(1, 2, "bars 1;").rim(), 0);
        CHECK.due("half round", two(1, 2, "").rim(), 4);
        HotCakes told = Check.with(Check.stack("plain", 2, 1));
        told.turn(2);
        CHECK.due("to the one as told, the first of all", told.rim(), 1);
        CHECK.due("from 1 2, one way", two(1, 2, ONE_WAY).rim(), 3);
        CHECK.due("from 2u 1, one way", two(-2, 1, ONE_WAY).rim(), 4);
        HotCakes x = two(1, 2, ONE_WAY);
        x.rim();
        x.turn(2);
        CHECK.due("as it is", x.rim(), 2);
        Check.griddle(x, Check.stack("browned", 1, 2));
        CHECK.due("on another griddle", x.rim(), 4);
        Check.griddle(x, Check.stack("browned", 1, 2) + ONE_WAY);
        CHECK.due("the same stack by another law", x.rim() * 10 + x.reached(60), 34);
    }

    // ---- numbers ----

    private static void nth() {
        CHECK.sentence("Terms 3, promise 28", "NTH: how many of ALL STACKS come ahead of this one");
        CHECK.due("no cakes", new HotCakes().nth(), 0);
        HotCakes x = Check.with(Check.stack("browned", 5, 1, 4, 2, 3));
        CHECK.due("the first", x.nth(), 0);
        x.turn(5);
        CHECK.due("the last", x.nth(), 3839);
        HotCakes y = Check.with(Check.stack("plain", 5, 1, 4, 2, 3));
        CHECK.due("the first without sides", y.nth(), 0);
        y.turn(5);
        CHECK.due("the last without sides", y.nth(), 119);
        CHECK.sentence("Terms 3, promise 28", "by the CAKES from the top down (the lesser number ahead)");
        int[] firsts = {0, 0, 24, 54, 86, 119};
        for (int many = 1; many <= 5; many++) {
            HotCakes z = Check.with(Check.stack("heavy", 5, 1, 4, 2, 3));
            z.turn(many);
            CHECK.due("turn(" + many + ")", z.nth(), firsts[many]);
        }
        CHECK.sentence("Terms 3, promise 28", "then by how these lie from the top down (down ahead of up)");
        CHECK.due("the lowest up", Check.with(Check.stack("browned", 5, 1, -3)).nth(), 1);
        CHECK.due("the middle up", Check.with(Check.stack("browned", 5, -1, 3)).nth(), 2);
        CHECK.due("the top up", Check.with(Check.stack("browned", -5, 1, 3)).nth(), 4);
        CHECK.due("all up", Check.with(Check.stack("browned", -5, -1, -3)).nth(), 7);
        HotCakes w = Check.with(Check.stack("browned", 5, 1, 3));
        w.turn(2);
        CHECK.due("the next but one order, with two up on top", w.nth(), 16 + 6);
        HotCakes mixed = Check.with("cake a plain wide 1 up; cake b glazed wide 2 up; cake c heavy wide 3 up;"
            + "cake d browned wide 4 down;");
        CHECK.due("those without a side are passed over", mixed.nth(), 2);
        mixed.turn(1);
        mixed.turn(4);
        // d up c b down a: the last order but for none, 23 * 4, and d, b as up, down
        CHECK.due("the last order", mixed.nth(), 23 * 4 + 2);
    }

    private static void pairs() {
        CHECK.sentence("Terms 3, promise 30", "PAIRS: pairs of CAKES of which the less wide one lies below the other one");
        CHECK.due("no cakes", new HotCakes().pairs(), 0);
        CHECK.due("one", Check.with(Check.stack("browned", -1)).pairs(), 0);
        CHECK.due("none", Check.with(Check.stack("browned", -1, -2, -3, -4, -5)).pairs(), 0);
        CHECK.due("all of five", Check.with(Check.stack("plain", 30, 29, 28, 2, 1)).pairs(), 10);
        CHECK.due("the lowest with all", Check.with(Check.stack("plain", 2, 3, 4, 5, 1)).pairs(), 4);
        CHECK.due("the top with all", Check.with(Check.stack("plain", 5, 1, 2, 3, 4)).pairs(), 4);
        CHECK.due("neighbours", Check.with(Check.stack("plain", 2, 1, 4, 3, 5)).pairs(), 2);
        HotCakes x = Check.with(Check.stack("glazed", 1, 2, 3) + "bars 1;");
        CHECK.due("whatever is barred", x.pairs(), 0);
        HotCakes y = Check.with(Check.stack("browned", 1, 2, 3));
        y.turn(3);
        CHECK.due("as it is", y.pairs(), 3);
    }

    // ---- gaps ----

    private static void gapsAre(int gaps, String griddle) {
        CHECK.due("gaps() of " + griddle, Check.with(griddle).gaps(), gaps);
    }

    private static void gapsOfNeighbours() {
        CHECK.sentence("Terms 3, promise 32", "GAPS: how many CAKES lie so that the one below [...] is not their neighbour");
        CHECK.due("no cakes", new HotCakes().gaps(), 0);
        gapsAre(5, Check.stack("browned", -1, 3, 5, 2, -4));
        gapsAre(5, Check.stack("browned", -1, -2, -3, -4, -5));
        CHECK.sentence("Terms 3, promise 32", "a neighbour is the next wider one of all, both lying down");
        gapsAre(0, Check.stack("browned", 1, 2, 3, 4, 5));
        gapsAre(0, Check.stack("browned", 3, 9, 10, 29, 30));
        gapsAre(2, "cake a browned wide 3 down; cake b plain wide 10 up; cake c plain wide 9 up; cake d plain wide 30 up;");
        gapsAre(1, Check.stack("browned", -1, 2));
        gapsAre(2, Check.stack("browned", 1, -2, 3));
        gapsAre(2, Check.stack("browned", -1, -2, 3));
        gapsAre(2, Check.stack("plain", 1, 3, 2));
        CHECK.sentence("Terms 3, promise 32", "or the next less wide one, both lying up");
        gapsAre(1, Check.stack("browned", -2, -1));
        gapsAre(2, Check.stack("browned", 2, -1));
        gapsAre(2, Check.stack("browned", -2, 1));
        gapsAre(2, Check.stack("browned", 2, 1));
        gapsAre(3, "cake a browned wide 3 up; cake b browned wide 1 up; cake c plain wide 2 up;");
        gapsAre(1, Check.stack("browned", -5, -4, -3, -2, -1));
        gapsAre(1, Check.stack("plain", 5, 4, 3, 2, 1));
    }

    private static void gapsOnThePlate() {
        CHECK.sentence("Terms 3, promise 32", "(the plate, below the last) [...] on the plate lies the widest, down");
        gapsAre(0, Check.stack("browned", 1));
        gapsAre(1, Check.stack("browned", -1));
        gapsAre(0, Check.stack("plain", -1));
        gapsAre(0, Check.stack("browned", 1, 2));
        gapsAre(2, Check.stack("browned", 1, -2));
        gapsAre(1, Check.stack("plain", 2, 1));
        gapsAre(2, Check.stack("plain", 4, 1, 2));
        gapsAre(0, "cake a browned wide 1 down; cake b plain wide 2 up;");
        gapsAre(0, "cake a browned wide 1 down; cake b heavy wide 2 up;");
        gapsAre(2, "cake a browned wide 1 down; cake b glazed wide 2 up;");
    }

    private static void gapsAndSides() {
        CHECK.sentence("Terms 3, promise 32", "(of CAKES without a SIDE it is never asked how they lie)");
        gapsAre(0, "cake a plain wide 1 up; cake b browned wide 2 down;");
        gapsAre(1, "cake a browned wide 1 up; cake b plain wide 2 up; cake c plain wide 3 up;");
        gapsAre(1, "cake b browned wide 2 up; cake a plain wide 1 up;");
        gapsAre(1, "cake b plain wide 2 up; cake a browned wide 1 up;");
        gapsAre(2, "cake b browned wide 2 down; cake a heavy wide 1 up;");
        gapsAre(2, "cake b heavy wide 2 up; cake a browned wide 1 down;");
        gapsAre(1, "cake b heavy wide 2 up; cake a plain wide 1 down;");
        HotCakes x = Check.with("cake a plain wide 1 up; cake b browned wide 2 down; cake c heavy wide 3 down;");
        CHECK.due("served", x.gaps(), 0);
        x.turn(3);
        CHECK.due("all turned: 3, 2 up, 1, none on the plate", x.gaps(), 1);
        x.turn(1);
        CHECK.due("1 turned: as it is", x.gaps(), 1);
    }

    private static void sharp() {
        CHECK.sentence("Terms 3, promise 33", "TRUE: whether LEAST is just as many as GAPS");
        CHECK.due("no cakes: 0 and 0", new HotCakes().sharp(), true);
        CHECK.due("served", two(1, 2, "").sharp(), true);
        CHECK.due("1 and 1", two(-1, 2, "").sharp(), true);
        CHECK.due("never, and 1", two(-1, 2, "bars 1;").sharp(), false);
        CHECK.due("4 and 2", two(-1, -2, "").sharp(), false);
        CHECK.due("2 and 2", two(-2, 1, "").sharp(), true);
        CHECK.due("2 and 2, one way", two(-2, 1, ONE_WAY).sharp(), true);
        CHECK.due("never, and 2", two(2, -1, ONE_WAY).sharp(), false);
        HotCakes x = two(-1, -2, "");
        x.turn(1);
        x.turn(2);
        CHECK.due("as it is: 2 and 2", x.sharp(), true);
    }
}
