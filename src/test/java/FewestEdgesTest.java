/**
 * "Terms" 3 as far as promises 14 to 22 go, sentence by sentence: never, served already, one alone, all, what is
 * refused. The words of the document stand ahead of their tests.
 *
 * Two browned cakes, 1 and 2, u where one lies up, lie in eight ways, on a ring: 1 2 by turn 1 comes to 1u 2, this by
 * turn 2 to 2u 1, then by 1, 2, 1, .. to 2 1, to 1u 2u, to 1 2u, to 2 1u, to 2u 1u, to 1 2 again.
 */
public final class FewestEdgesTest {
    private static final Check CHECK = new Check();
    private static final int[] NO_TURNS = {0, -1, -2, Integer.MAX_VALUE, Integer.MIN_VALUE};
    /** None that lies down is turned alone: 2u 1 and 1u 2 can be served, 2u 1u too, all else never. */
    private static final String ONE_WAY = "bars take = 1 and brown = 0;";

    public static void main(String[] args) {
        least();
        row();
        firstRow();
        ways();
        cheap();
        bill();
        without();
        needed();
        far();
        farByAnotherLaw();
        toward();
        asItIs();
        CHECK.end();
    }

    private static HotCakes two(int top, int below, String law) {
        return Check.with(Check.stack("browned", top, below) + law);
    }

    private static HotCakes three(int top, int middle, int below, String law) {
        return Check.with(Check.stack("plain", top, middle, below) + law);
    }

    private static void rowIs(HotCakes x, int... row) {
        CHECK.due("least()", x.least(), row.length);
        for (int i = 0; i < row.length; i++) {
            CHECK.due("row(" + i + ")", x.row(i), row[i]);
        }
        noRow(x, row.length);
    }

    private static void noRow(HotCakes x, int from) {
        for (int i = from; i < from + 6; i++) {
            CHECK.due("row(" + i + "), none such", x.row(i), -1);
        }
        for (int i : new int[] {-1, -2, 512, 3840, Integer.MAX_VALUE, Integer.MIN_VALUE}) {
            CHECK.due("row(" + i + "), none such", x.row(i), -1);
        }
    }

    private static void billIs(HotCakes x, int cost, int... bill) {
        CHECK.due("cheap()", x.cheap(), cost);
        for (int i = 0; i < bill.length; i++) {
            CHECK.due("bill(" + i + ")", x.bill(i), bill[i]);
        }
        noBill(x, bill.length);
    }

    private static void noBill(HotCakes x, int from) {
        for (int i = from; i < from + 6; i++) {
            CHECK.due("bill(" + i + "), none such", x.bill(i), -1);
        }
        for (int i : new int[] {-1, -2, 512, 3840, Integer.MAX_VALUE, Integer.MIN_VALUE}) {
            CHECK.due("bill(" + i + "), none such", x.bill(i), -1);
        }
    }

    // ---- the fewest ----

    private static void least() {
        CHECK.sentence("Terms 3, promise 14", "LEAST: [...] (0: it is)");
        CHECK.due("no cakes", new HotCakes().least(), 0);
        CHECK.due("one", Check.with(Check.stack("browned", 7)).least(), 0);
        CHECK.due("five", Check.with(Check.stack("browned", 1, 2, 3, 4, 5)).least(), 0);
        CHECK.due("all barred", two(1, 2, "bars 1;").least(), 0);
        CHECK.sentence("Terms 3, promise 14", "the fewest TURNS by which the STACK is SERVED");
        int[][] ring = {{1, 2}, {-1, 2}, {-2, 1}, {2, 1}, {-1, -2}, {1, -2}, {2, -1}, {-2, -1}};
        int[] least = {0, 1, 2, 3, 4, 3, 2, 1};
        for (int i = 0; i < 8; i++) {
            CHECK.due("on the ring of 8, " + i, two(ring[i][0], ring[i][1], "").least(), least[i]);
        }
        CHECK.due("one that is up", Check.with(Check.stack("glazed", -7)).least(), 1);
        CHECK.due("the farthest of five plain ones", Check.with(Check.stack("plain", 5, 3, 1, 4, 2)).least(), 5);
        CHECK.sentence("promise 14", "NONE: never");
        int[] oneWay = {0, 1, 2, -1, -1, -1, -1, 1};
        for (int i = 0; i < 8; i++) {
            CHECK.due("one way, " + i, two(ring[i][0], ring[i][1], ONE_WAY).least(), oneWay[i]);
        }
        CHECK.due("all barred", two(2, 1, "bars 1;").least(), -1);
        CHECK.due("the widest is glazed, on top",
            Check.with("cake a glazed wide 9 down; cake b glazed wide 1 down;").least(), -1);
    }

    private static void row() {
        CHECK.sentence("promise 15", "NONE: never");
        noRow(two(2, 1, "bars 1;"), 0);
        noRow(two(2, 1, ONE_WAY), 0);
        CHECK.sentence("promise 15", "NONE: [...] none such");
        noRow(new HotCakes(), 0);
        noRow(two(1, 2, ""), 0);
        noRow(two(1, 2, "bars brown;"), 0);
        CHECK.sentence("promise 15", "The i-th TURN (from 0) of ROW");
        rowIs(Check.with(Check.stack("browned", -7)), 1);
        rowIs(two(-1, 2, ""), 1);
        rowIs(two(-2, -1, ""), 2);
        rowIs(two(-2, 1, ""), 2, 1);
        rowIs(two(2, 1, ""), 1, 2, 1);
        rowIs(two(1, -2, ""), 2, 1, 2);
        rowIs(two(-2, 1, ONE_WAY), 2, 1);
        rowIs(Check.with(Check.stack("plain", 5, 4, 3, 2, 1)), 5);
    }

    private static void firstRow() {
        CHECK.sentence("Terms 3", "ROW: of all such rows of TURNS the first one");
        rowIs(two(-1, -2, ""), 1, 2, 1, 2);
        // three plain ones lie on a ring of 6, by turns 2 and 3: the weight of 2 tells which one is the lowest
        rowIs(three(1, 3, 2, ""), 2, 3, 2);
        rowIs(three(1, 3, 2, "bars take = 2 and weight = 4;"), 3, 2, 3);
        rowIs(three(1, 3, 2, "bars take = 2 and weight = 3;"), 3, 2, 3);
        rowIs(three(1, 3, 2, "bars weight = 5;"), 2, 3, 2);
        // 1 is ahead of 2, and turns none of them, but with it a row is longer
        rowIs(three(2, 3, 1, ""), 2, 3);
        CHECK.sentence("Terms 3, promises 14 and 15, where it is far",
            "LEAST: the fewest TURNS [...] ROW: of all such rows of TURNS the first one");
        HotCakes far = Extremes.ways31627051008();
        CHECK.due("least()", far.least(), 154);
        int[] rest = new int[154];
        for (int i = 0; i < 154; i++) {
            rest[i] = far.row(i);
        }
        noRow(far, 154);
        for (int i = 0; i < 154; i++) {
            CHECK.due("turn(row(" + i + "))", far.turn(rest[i]), 1);
        }
        CHECK.due("served", far.served(), true);
        HotCakes x = Check.with(Check.stack("browned", 3, 2, 1));
        int least = x.least();
        for (int i = 0; i < least; i++) {
            CHECK.due("each one brings it nearer", x.least(), least - i);
            x.turn(x.row(0));
        }
        CHECK.due("till it is served", x.served(), true);
    }

    private static void ways() {
        CHECK.sentence("Terms 3, promise 16", "WAYS: how many such rows there are");
        CHECK.due("no cakes: the one without turns", new HotCakes().ways(), 1);
        CHECK.due("served: the one without turns", two(1, 2, "").ways(), 1);
        CHECK.due("one way", two(-1, 2, "").ways(), 1);
        CHECK.due("half round, both ways", two(-1, -2, "").ways(), 2);
        CHECK.due("half round the 6", three(1, 3, 2, "").ways(), 2);
        CHECK.due("half round the 6, one way barred", three(1, 3, 2, "bars take = 2 and weight = 4;").ways(), 1);
        CHECK.due("the other one", three(1, 3, 2, "bars weight = 5;").ways(), 1);
        CHECK.sentence("Terms 3, promise 16", "(2000000000 at most)");
        CHECK.due("1,908,178,944", Extremes.ways1908178944().ways(), 1908178944);
        CHECK.due("31,627,051,008", Extremes.ways31627051008().ways(), 2000000000);
        CHECK.sentence("promise 16", "(0: never)");
        CHECK.due("all barred", two(2, 1, "bars 1;").ways(), 0);
        CHECK.due("one way", two(1, -2, ONE_WAY).ways(), 0);
        CHECK.sentence("Terms 3, promise 16, asked again", "WAYS: how many such rows there are");
        HotCakes x = three(1, 3, 2, "");
        CHECK.due("first", x.ways(), 2);
        CHECK.due("behind other questions", x.chance(6, true) > 0 && x.wins(0) >= 0 && x.cheap() > 0 && x.ways() == 2, true);
        x.turn(1);
        CHECK.due("behind a turn", x.ways(), 2);
        x.turn(2);
        CHECK.due("behind another", x.ways(), 1);
    }

    // ---- the cheapest ----

    private static void cheap() {
        CHECK.sentence("promise 17", "NONE: never");
        CHECK.due("all barred", two(2, 1, "bars 1;").cheap(), -1);
        CHECK.due("one way", two(2, 1, ONE_WAY).cheap(), -1);
        CHECK.sentence("Terms 3, promise 17", "CHEAP: the least that TURNS by which it is SERVED cost, together");
        CHECK.due("no cakes", new HotCakes().cheap(), 0);
        CHECK.due("served", two(1, 2, "costs 9;").cheap(), 0);
        CHECK.due("one turn of the dearest", two(-1, 2, "costs 9;").cheap(), 9);
        CHECK.due("one turn of the cheapest", two(-1, 2, "costs 0;").cheap(), 1);
        CHECK.due("the way back would be 1, 3, 3, ..", two(-1, 2, "costs brown * 3;").cheap(), 3);
        CHECK.due("one way", two(-2, 1, ONE_WAY + "costs take * 2 + brown;").cheap(), 5 + 3);
        CHECK.due("what one costs that goes the other way is not asked",
            two(2, -1, "bars take = 1 and brown; costs brown = 2 and take * 8 or 1;").cheap(), 2);
    }

    private static void bill() {
        CHECK.sentence("promise 18", "NONE: never");
        noBill(two(2, 1, "bars 1;"), 0);
        noBill(two(2, 1, ONE_WAY), 0);
        CHECK.sentence("promise 18", "NONE: [...] none such");
        noBill(new HotCakes(), 0);
        noBill(two(1, 2, "costs 0;"), 0);
        noBill(two(1, 2, "bars brown;"), 0);
        CHECK.sentence("Terms 3, promise 18", "BILL: of all such rows the first one (by its TURNS");
        CHECK.due("asked first", two(-1, 2, "costs 9;").bill(0), 1);
        CHECK.due("asked first, the second turn", two(-2, 1, "").bill(1), 1);
        billIs(two(-1, 2, "costs 9;"), 9, 1);
        billIs(two(-1, -2, "costs 2;"), 8, 1, 2, 1, 2);
        billIs(three(1, 3, 2, ""), 3, 2, 3, 2);
        billIs(three(1, 3, 2, "costs 1 + (take = 2 and weight = 4);"), 3, 3, 2, 3);
        billIs(three(1, 3, 2, "costs 1 + (weight = 5);"), 3, 2, 3, 2);
        billIs(three(1, 3, 2, "costs take;"), 7, 2, 3, 2);
        billIs(three(1, 3, 2, "costs 9 - 2 * take;"), 11, 3, 2, 3);
        // 3, 2 and 2, 3, 2, 3: the longer one is the first one, if it costs no more
        billIs(three(3, 1, 2, "costs 1 + (take = 2 and weight = 3);"), 3, 3, 2);
        billIs(three(3, 1, 2, "costs 1 + 2 * (take = 2 and weight = 3);"), 4, 2, 3, 2, 3);
        billIs(three(3, 1, 2, "costs 1 + 3 * (take = 2 and weight = 3);"), 4, 2, 3, 2, 3);
        CHECK.sentence("Terms 3, promises 17 and 18, where it is far",
            "CHEAP: the least [...] BILL: of all such rows the first one");
        HotCakes far = Extremes.far61("costs 9;");
        CHECK.due("61 turns of 9", far.cheap(), 549);
        for (int i = 0; i < 61; i++) {
            CHECK.due("the fewest are the cheapest, " + i, far.bill(i), far.row(i));
        }
        noBill(far, 61);
        CHECK.sentence("Terms 3, promises 17 and 18, where more turns cost less",
            "CHEAP: the least that TURNS by which it is SERVED cost, together");
        // three turns the short way, 1 9 1; five the other way, each 1
        billIs(two(2, 1, "costs 1 + 8 * (take = 2 and brown = 1 and weight = 3);"), 11, 1, 2, 1);
        HotCakes x = Check.with(Check.stack("browned", 4, -1, -3) + "costs take * take;");
        CHECK.due("the fewest", x.least(), 4);
        billIs(x, 16, 1, 3, 1, 2, 1);
        CHECK.sentence("Terms 3", "one that ends comes ahead of one that goes on)");
        billIs(two(-1, 2, "costs 0;"), 1, 1);
        billIs(two(-1, 2, "costs 0 - 9;"), 1, 1);
        billIs(Check.with(Check.stack("plain", 2, 1) + "costs 0;"), 1, 2);
    }

    // ---- without ----

    private static void without() {
        CHECK.sentence("promise 19", "NONE: others");
        for (int many : NO_TURNS) {
            CHECK.due("without(" + many + "), served", two(1, 2, "").without(many), -1);
            CHECK.due("without(" + many + ")", two(-1, 2, "").without(many), -1);
        }
        CHECK.due("without(3) of two", two(-1, 2, "").without(3), -1);
        CHECK.due("without(3) of two, served", two(1, 2, "").without(3), -1);
        CHECK.due("without(1) of none", new HotCakes().without(1), -1);
        CHECK.due("without(0) of none", new HotCakes().without(0), -1);
        CHECK.due("without(6) of five", Check.with(Check.stack("plain", 5, 4, 3, 2, 1)).without(6), -1);
        CHECK.sentence("promise 19", "NONE: [...] never");
        CHECK.due("1 is needed", two(-1, 2, "").without(1), -1);
        CHECK.due("never at all", two(2, 1, "bars 1;").without(1), -1);
        CHECK.due("5 of five", Check.with(Check.stack("plain", 5, 4, 3, 2, 1)).without(5), -1);
        CHECK.sentence("Terms 3", "WITHOUT so many: LEAST, if just so many are never TURNED");
        CHECK.due("served, 1", two(1, 2, "").without(1), 0);
        CHECK.due("served, 2", two(1, 2, "").without(2), 0);
        CHECK.due("2 is not needed", two(-1, 2, "").without(2), 1);
        CHECK.due("nor 4 of five", Check.with(Check.stack("plain", 5, 4, 3, 2, 1)).without(4), 1);
        CHECK.due("a longer way", Check.with(Check.stack("browned", 1, 3, 2, 4)).without(1), 8);
        CHECK.due("from the stack to the served one, not back: 1 can", two(-1, 2, ONE_WAY).without(2), 1);
        CHECK.due("2 can", two(-2, -1, "bars take = 2 and brown = 0;").without(1), 1);
        CHECK.due("2 can't", two(-2, -1, "bars take = 2 and brown = 2;").without(1), -1);
    }

    private static void needed() {
        CHECK.sentence("promise 20", "NONE: never");
        CHECK.due("all barred", two(2, 1, "bars 1;").needed(), -1);
        CHECK.due("one way", two(2, 1, ONE_WAY).needed(), -1);
        CHECK.sentence("Terms 3", "NEEDED: the numbers of TURNS without which, each alone, it can't be SERVED");
        CHECK.due("no cakes", new HotCakes().needed(), 0);
        CHECK.due("served", two(1, 2, "").needed(), 0);
        CHECK.due("served, all barred", two(1, 2, "bars 1;").needed(), 0);
        CHECK.due("either way round", Check.with(Check.stack("browned", 1, 3, 2, 4)).needed() & 1, 0);
        CHECK.sentence("Terms 3, promise 20", "(bits, TURN 1: bit 0)");
        CHECK.due("1", two(-1, 2, "").needed(), 1);
        CHECK.due("2", two(-2, -1, "").needed(), 2);
        CHECK.due("1 and 2", two(-1, -2, "").needed(), 3);
        CHECK.due("3", Check.with(Check.stack("plain", 3, 2, 1)).needed(), 4);
        CHECK.due("4", Check.with(Check.stack("plain", 4, 3, 2, 1)).needed(), 8);
        CHECK.due("5", Check.with(Check.stack("plain", 5, 4, 3, 2, 1)).needed(), 16);
        CHECK.due("from the stack, not back to it", two(-1, 2, ONE_WAY).needed(), 1);
        CHECK.due("both, one way", two(-2, 1, ONE_WAY).needed(), 3);
    }

    // ---- wished ----

    private static HotCakes wishing(HotCakes x, String wish) {
        CHECK.due("wish '" + wish + "'", Check.wish(x, wish), 0);
        return x;
    }

    private static void far() {
        CHECK.sentence("promise 21", "NONE: [...] no WISH");
        CHECK.due("no cakes", new HotCakes().far(), -1);
        CHECK.due("two", two(1, 2, "").far(), -1);
        HotCakes x = two(1, 2, "");
        Check.wish(x, "a down b");
        CHECK.due("one with a fault", x.far(), -1);
        CHECK.sentence("promise 21", "NONE: never");
        CHECK.due("all barred", wishing(two(1, 2, "bars 1;"), "a up b down").far(), -1);
        // 1 2 comes to 2u 1u, to 2 1u, to 1 2u, and no further
        String[] wishes = {"a down b down", "b up a up", "b down a up", "a down b up", "a up b up", "b down a down",
            "b up a down", "a up b down"};
        int[] far = {0, 1, 2, 3, -1, -1, -1, -1};
        for (int i = 0; i < 8; i++) {
            CHECK.due("one way, to " + wishes[i], wishing(two(1, 2, ONE_WAY), wishes[i]).far(), far[i]);
        }
        CHECK.sentence("Terms 3, promise 21", "FAR: the fewest TURNS by which the STACK is as wished");
        int[] round = {0, 1, 2, 3, 4, 3, 2, 1};
        for (int i = 0; i < 8; i++) {
            CHECK.due("to " + wishes[i], wishing(two(1, 2, ""), wishes[i]).far(), round[i]);
        }
        HotCakes none = wishing(new HotCakes(), "");
        CHECK.due("no cakes: as wished", none.far(), 0);
        HotCakes y = wishing(two(1, 2, ""), "b up a up");
        y.turn(2);
        CHECK.due("come to", y.far(), 0);
        y.turn(1);
        CHECK.due("and gone from", y.far(), 1);
    }

    private static void farByAnotherLaw() {
        CHECK.sentence("Terms 3, promises 21 and 22, by another law", "To the WISH: FAR: the fewest TURNS");
        HotCakes x = wishing(two(1, 2, ""), "a up b down");
        CHECK.due("by 1", x.far() * 10 + x.toward(), 11);
        Check.griddle(x, Check.stack("browned", 1, 2) + "bars take = 1;");
        wishing(x, "a up b down");
        CHECK.due("the same wish, never", x.far() * 10 + x.toward(), -11);
        Check.griddle(x, Check.stack("browned", 1, 2) + ONE_WAY);
        wishing(x, "a up b down");
        CHECK.due("one way, never", x.far() * 10 + x.toward(), -11);
        Check.griddle(x, Check.stack("browned", 1, 2) + "costs 3;");
        wishing(x, "a up b down");
        CHECK.due("as ahead", x.far() * 10 + x.toward(), 11);
    }

    private static void toward() {
        CHECK.sentence("promise 22", "NONE: never");
        CHECK.due("all barred", wishing(two(1, 2, "bars 1;"), "a up b down").toward(), -1);
        CHECK.due("one way", wishing(two(1, 2, ONE_WAY), "a up b down").toward(), -1);
        CHECK.sentence("promise 22", "NONE: [...] no WISH");
        CHECK.due("no cakes", new HotCakes().toward(), -1);
        CHECK.due("two", two(1, 2, "").toward(), -1);
        CHECK.sentence("promise 22", "NONE: [...] it is as wished");
        CHECK.due("two", wishing(two(1, 2, ""), "a down b down").toward(), -1);
        CHECK.due("no cakes", wishing(new HotCakes(), "").toward(), -1);
        // a turn on there is a stack from which it never is as wished
        CHECK.due("all but it is never", wishing(two(1, 2, "bars brown;"), "a down b down").toward(), -1);
        CHECK.sentence("Terms 3, promise 22", "TOWARD: of all such rows of TURNS the first one's first");
        CHECK.due("half round: either way", wishing(two(1, 2, ""), "a up b up").toward(), 1);
        CHECK.due("half round the 6: either way", wishing(three(1, 2, 3, ""), "a up c up b up").toward(), 2);
        CHECK.due("half round the 6, 2 is barred",
            wishing(three(1, 2, 3, "bars take = 2 and weight = 3;"), "a up c up b up").toward(), 3);
        CHECK.due("half round the 6, 2 is barred later",
            wishing(three(1, 2, 3, "bars take = 2 and weight = 4;"), "a up c up b up").toward(), 3);
        CHECK.due("the short way by 1", wishing(two(1, 2, ""), "b down a down").toward(), 1);
        CHECK.due("the short way by 2", wishing(two(1, 2, ""), "a down b up").toward(), 2);
        CHECK.due("one way", wishing(two(1, 2, ONE_WAY), "a down b up").toward(), 2);
        HotCakes x = wishing(Check.with(Check.stack("browned", 5, 3, 1, 4, 2)), "e up d down c up b down a up");
        for (int turns = 0; turns < 20 && x.far() > 0; turns++) {
            int far = x.far();
            x.turn(x.toward());
            CHECK.due("it is one nearer", x.far(), far - 1);
        }
        CHECK.due("and as wished", x.there(0) == 4 && x.there(4) == 0 && x.cake(4, 3) == 1 && x.cake(3, 3) == 0, true);
    }

    /** All of it is asked of the stack as it is, and of the griddle that is, whatever was asked ahead. */
    private static void asItIs() {
        CHECK.sentence("Terms 3, promises 14 to 22, as it is, on the griddle that is", "by which the STACK is SERVED");
        HotCakes x = three(1, 3, 2, "costs 3;");
        wishing(x, "c up a up b up");
        CHECK.due("all of it", x.least() * 1000 + x.cheap() * 10 + x.far(), 3092);
        x.turn(2);
        CHECK.due("behind a turn", x.least() * 1000 + x.cheap() * 10 + x.far(), 2061);
        CHECK.due("its ways", x.ways() * 10 + x.row(0), 13);
        CHECK.due("needed", x.needed(), 6);
        x.undo();
        CHECK.due("undone", x.least() * 1000 + x.cheap() * 10 + x.far(), 3092);
        CHECK.due("its ways", x.ways() * 10 + x.row(0), 22);
        Check.griddle(x, Check.stack("plain", 1, 3, 2) + "costs 2; bars take = 2 and weight = 4;");
        CHECK.due("one way alone, no wish", x.least() * 1000 + x.cheap() * 10 + x.far(), 3059);
        CHECK.due("its way", x.ways() * 10 + x.row(0), 13);
        CHECK.due("without 2", x.without(2), -1);
        wishing(x, "c up a up b up");
        CHECK.due("far on it, the long way", x.far(), 4);
        Check.griddle(x, Check.stack("plain", 1, 3, 2) + "bars take = 3;");
        CHECK.due("never", x.least() * 1000 + x.cheap() * 10 + x.far(), -1011);
        CHECK.due("without 2, never", x.without(2) * 10 + x.needed(), -11);
        Check.griddle(x, Check.stack("plain", 2, 1));
        CHECK.due("without 1", x.without(1) * 10 + x.needed(), 12);
    }
}
