/** Promises 14 to 22: the fewest turns, the least that they cost, the same to a wished stack. */
public final class FewestTest {
    private static final Check CHECK = new Check();
    private static final String HARD_THREE = Check.stack("plain", 1, 3, 2);
    /** From the second stack on none can be served: 2 can't be turned any more. */
    private static final String ONE_WAY =
        "cake g glazed wide 1 up ; cake h heavy wide 5 down ; bars brown = 0 and take = 2 ; costs weight + left ;";

    public static void main(String[] args) {
        least();
        rows();
        ways();
        cheapest();
        without();
        wished();
        CHECK.end();
    }

    private static void rowIs(HotCakes x, int... row) {
        for (int i = 0; i < row.length; i++) {
            CHECK.due("row(" + i + ")", x.row(i), row[i]);
        }
        CHECK.due("row behind the last", x.row(row.length), -1);
        CHECK.due("row(-1)", x.row(-1), -1);
        CHECK.due("row of the greatest", x.row(Integer.MAX_VALUE), -1);
        CHECK.due("row of the least", x.row(Integer.MIN_VALUE), -1);
    }

    private static void billIs(HotCakes x, int... bill) {
        for (int i = 0; i < bill.length; i++) {
            CHECK.due("bill(" + i + ")", x.bill(i), bill[i]);
        }
        CHECK.due("bill behind the last", x.bill(bill.length), -1);
        CHECK.due("bill(-1)", x.bill(-1), -1);
        CHECK.due("bill of the greatest", x.bill(Integer.MAX_VALUE), -1);
        CHECK.due("bill of the least", x.bill(Integer.MIN_VALUE), -1);
    }

    private static HotCakes lost() {
        HotCakes x = Check.with(ONE_WAY);
        x.turn(2);
        return x;
    }

    private static void least() {
        CHECK.promise(14, "least");
        CHECK.due("no cakes", new HotCakes().least(), 0);
        CHECK.due("served", Check.with(Check.stack("browned", 1, 2)).least(), 0);
        // two browned cakes: the 8 stacks lie on a ring of turns 1, 2, 1, 2, ..
        CHECK.due("one is up", Check.with(Check.stack("browned", -1, 2)).least(), 1);
        CHECK.due("the farthest of 8", Check.with(Check.stack("browned", -1, -2)).least(), 4);
        CHECK.due("three plain ones", Check.with(HARD_THREE).least(), 3);
        CHECK.due("never", lost().least(), -1);
        CHECK.due("all barred", Check.with(HARD_THREE + "bars 1;").least(), -1);
        CHECK.due("all barred, but served", Check.with(Check.stack("plain", 1, 2) + "bars 1;").least(), 0);
        HotCakes x = Check.with(HARD_THREE);
        x.turn(2);
        CHECK.due("of the stack as it is", x.least(), 2);
        CHECK.due("another griddle", Check.griddle(x, Check.stack("plain", 2, 1)) + x.least(), 1);
        CHECK.due("the same with a law", Check.griddle(x, Check.stack("plain", 2, 1) + "bars take = 2;") + x.least(), -1);
    }

    private static void rows() {
        CHECK.promise(15, "row");
        rowIs(new HotCakes());
        rowIs(Check.with(Check.stack("browned", 1, 2)));
        rowIs(Check.with(HARD_THREE), 2, 3, 2);
        rowIs(Check.with(HARD_THREE + "bars left = 1 and weight = 4;"), 3, 2, 3);
        rowIs(Check.with(Check.stack("browned", -1, -2)), 1, 2, 1, 2);
        rowIs(Check.with(Check.stack("browned", 2, 1)), 1, 2, 1);
        rowIs(lost());
        // served, and one turn away is a stack that never is
        rowIs(Check.with(Check.stack("browned", 1, 2) + "bars brown;"));
    }

    private static void ways() {
        CHECK.promise(16, "ways");
        CHECK.due("no cakes", new HotCakes().ways(), 1);
        CHECK.due("served", Check.with(Check.stack("browned", 1, 2)).ways(), 1);
        CHECK.due("both ways round", Check.with(HARD_THREE).ways(), 2);
        CHECK.due("both ways round the 8", Check.with(Check.stack("browned", -1, -2)).ways(), 2);
        CHECK.due("one way round", Check.with(Check.stack("browned", 2, 1)).ways(), 1);
        CHECK.due("never", lost().ways(), 0);
        HotCakes x = Check.with(Check.stack("browned", -1, -2, -3, -4, -5));
        Slow slow = new Slow();
        for (char sign : Check.stack("browned", -1, -2, -3, -4, -5).toCharArray()) {
            slow.feed((long) sign, 0, 0);
        }
        slow.griddle();
        CHECK.due("five that are all up", x.ways(), slow.ways());
    }

    private static void cheapest() {
        CHECK.promise(17, "cheap");
        CHECK.due("no cakes", new HotCakes().cheap(), 0);
        CHECK.due("served", Check.with(Check.stack("browned", 1, 2) + "costs 7;").cheap(), 0);
        CHECK.due("as many as turns", Check.with(HARD_THREE).cheap(), 3);
        CHECK.due("2, 3, 2", Check.with(HARD_THREE + "costs take;").cheap(), 7);
        CHECK.due("3, 2, 3", Check.with(HARD_THREE + "costs 9 - 2 * take;").cheap(), 11);
        // 1, 3, 1, 2, 1 costs 1 + 9 + 1 + 4 + 1, the one row of four, 2, 3, 2, 3, costs 26
        String longer = Check.stack("browned", 4, -1, -3) + "costs take * take;";
        CHECK.due("fewer turns", Check.with(longer).least(), 4);
        CHECK.due("cheaper ones", Check.with(longer).cheap(), 16);
        CHECK.due("never", lost().cheap(), -1);
        HotCakes x = Check.with(HARD_THREE + "costs take;");
        x.turn(3);
        CHECK.due("of the stack as it is", x.cheap(), 5);
        CHECK.due("another griddle", Check.griddle(x, Check.stack("plain", 2, 1) + "costs 5;") + x.cheap(), 5);
        CHECK.promise(18, "bill");
        billIs(new HotCakes());
        billIs(Check.with(Check.stack("browned", 1, 2)));
        billIs(Check.with(HARD_THREE), 2, 3, 2);
        billIs(Check.with(HARD_THREE + "costs 9 - 2 * take;"), 3, 2, 3);
        billIs(Check.with(longer), 1, 3, 1, 2, 1);
        billIs(lost());
        billIs(Check.with(Check.stack("browned", 1, 2) + "bars brown;"));
        // alike in cost, not in length: 1, 2, 1, 2 costs 1 + 5 + 5 + 5 in both ways round
        billIs(Check.with(Check.stack("browned", -1, -2) + "costs 2;"), 1, 2, 1, 2);
    }

    private static void without() {
        CHECK.promise(19, "without");
        HotCakes x = Check.with(HARD_THREE);
        CHECK.due("without(0)", x.without(0), -1);
        CHECK.due("without(1)", x.without(1), 3);
        CHECK.due("without(2)", x.without(2), -1);
        CHECK.due("without(3)", x.without(3), -1);
        CHECK.due("without(4)", x.without(4), -1);
        CHECK.due("without(1) of none", new HotCakes().without(1), -1);
        CHECK.due("served", Check.with(Check.stack("plain", 1, 2)).without(2), 0);
        CHECK.due("without(0), served", Check.with(Check.stack("plain", 1, 2)).without(0), -1);
        CHECK.due("never", lost().without(1), -1);
        // 2 1 3 of plain ones: by 2, or 3, 1 can't be left alone; by 3 alone it comes back
        CHECK.due("the short way is gone", Check.with(Check.stack("plain", 2, 1, 3)).without(2), -1);
        // 2 1 3 4: by 2; by 3, 4, 3, 4, .. it comes back after 8, and 1 2 3 4 is none of these
        CHECK.due("no way round", Check.with(Check.stack("plain", 2, 1, 3, 4)).without(2), -1);
        HotCakes longer = Check.with(Check.stack("browned", 1, 3, 2, 4));
        CHECK.due("1, 2, 3, 2", longer.least(), 4);
        CHECK.due("a longer way without 1", longer.without(1), 8);
        CHECK.due("4 is not needed", longer.without(4), 4);
        Check.griddle(longer, Check.stack("browned", 1, 3, 2, 4) + "bars take = 3;");
        CHECK.due("another griddle, without 1", longer.without(1), -1);
        CHECK.due("another griddle, without 4", longer.without(4), longer.least());
        CHECK.promise(20, "needed");
        CHECK.due("2 and 3", x.needed(), 6);
        CHECK.due("served", Check.with(Check.stack("plain", 1, 2)).needed(), 0);
        CHECK.due("no cakes", new HotCakes().needed(), 0);
        CHECK.due("2", Check.with(Check.stack("plain", 2, 1)).needed(), 2);
        CHECK.due("1", Check.with(Check.stack("browned", -1, 2)).needed(), 1);
        CHECK.due("1, for 2 alone is not enough", Check.with(Check.stack("browned", -1, -2)).needed(), 3);
        CHECK.due("never", lost().needed(), -1);
    }

    private static void wished() {
        CHECK.promise(21, "far");
        HotCakes x = Check.with(Check.stack("browned", 1, 2));
        CHECK.due("no wish", x.far(), -1);
        Check.wish(x, "a up b up");
        CHECK.due("the farthest of 8", x.far(), 4);
        CHECK.promise(22, "toward");
        CHECK.due("either way, 1 first", x.toward(), 1);
        x.turn(2);
        CHECK.due("on the other way", x.toward(), 1);
        CHECK.due("and nearer", x.far(), 3);
        x.turn(1);
        x.turn(2);
        x.turn(1);
        CHECK.due("as wished", x.far(), 0);
        CHECK.due("none is toward", x.toward(), -1);
        Check.wish(x, "b down a up");
        CHECK.due("another wish", x.far(), 2);
        CHECK.due("toward it", x.toward(), 1);
        Check.griddle(x, Check.stack("browned", 1, 2));
        CHECK.due("the wish is gone", x.far(), -1);
        Check.wish(x, "b down a up");
        CHECK.due("as far as ever", x.far(), 2);
        Check.griddle(x, Check.stack("browned", 1, 2) + "bars take = 2;");
        Check.wish(x, "b down a up");
        CHECK.due("the same wish by another law", x.far(), -1);
        Check.griddle(x, Check.stack("browned", 1, 2));
        CHECK.due("toward none", x.toward(), -1);
        HotCakes y = lost();
        Check.wish(y, "g up h down");
        CHECK.due("never", y.far(), -1);
        CHECK.due("toward it, never", y.toward(), -1);
        HotCakes z = Check.with(Check.stack("plain", 1, 2, 3));
        Check.wish(z, "b up a up c up");
        CHECK.due("without sides none is wished up", z.far(), 1);
        CHECK.due("by 2", z.toward(), 2);
        Check.wish(z, "a up b up c down");
        CHECK.due("is as wished", z.far(), 0);
        HotCakes bars = Check.with(Check.stack("browned", -1, 2) + "bars brown = 0 and take = 1;");
        Check.wish(bars, "a down b down");
        CHECK.due("there", bars.far(), 1);
        CHECK.due("by 1", bars.toward(), 1);
        bars.turn(1);
        Check.wish(bars, "a up b down");
        CHECK.due("but not back", bars.far(), -1);
        CHECK.due("by none", bars.toward(), -1);
        HotCakes shut = Check.with(Check.stack("browned", 1, 2) + "bars brown;");
        Check.wish(shut, "a down b down");
        CHECK.due("as wished, and one turn away it never can be", shut.toward(), -1);
    }
}
