/** Promises 29 and 34 to 36: turns done again and again, lines that may be left out, where the plan ends. */
public final class PlansTest {
    private static final Check CHECK = new Check();

    public static void main(String[] args) {
        rings();
        again();
        spare();
        ends();
        CHECK.end();
    }

    private static HotCakes planned(String griddle, String plan) {
        HotCakes x = Check.with(griddle);
        if (Check.plan(x, plan) != 0) {
            throw new IllegalStateException(plan);
        }
        return x;
    }

    private static void rings() {
        CHECK.promise(29, "ring");
        HotCakes x = Check.with(Check.stack("browned", 1, 2));
        CHECK.due("the ring of 8", x.ring(1, 2), 8);
        CHECK.due("and back", x.ring(2, 1), 8);
        CHECK.due("twice the same", x.ring(2, 2), 2);
        CHECK.due("ring(0, 1)", x.ring(0, 1), -1);
        CHECK.due("ring(1, 0)", x.ring(1, 0), -1);
        CHECK.due("ring(3, 1)", x.ring(3, 1), -1);
        CHECK.due("ring(1, 3)", x.ring(1, 3), -1);
        CHECK.due("none moved", x.count(2), 0);
        CHECK.due("the ring of 6", Check.with(Check.stack("plain", 1, 2, 3)).ring(2, 3), 6);
        CHECK.due("behind an even number alone", Check.with(Check.stack("plain", 1, 2)).ring(1, 2), 4);
        CHECK.due("none is there", new HotCakes().ring(1, 1), -1);
        HotCakes bars = Check.with(Check.stack("browned", 1, 2) + "bars brown = 0 and take = 1;");
        CHECK.due("the first one can't be", bars.ring(1, 2), -1);
        CHECK.due("one on the way can't be", bars.ring(2, 1), -1);
        CHECK.due("twice 2 can be", bars.ring(2, 2), 2);
        bars.turn(2);
        CHECK.due("from the stack as it is: the second one can't be", bars.ring(1, 1), -1);
    }

    private static void again() {
        CHECK.promise(34, "again");
        CHECK.due("no cakes", new HotCakes().again(), 1);
        HotCakes x = planned(Check.stack("browned", 1, 2), "");
        CHECK.due("no lines", x.again(), 1);
        Check.plan(x, "turn 1;");
        CHECK.due("twice", x.again(), 2);
        Check.plan(x, "turn 1; turn 2;");
        CHECK.due("four times two", x.again(), 4);
        Check.plan(x, "turn 1; turn 1;");
        CHECK.due("once", x.again(), 1);
        CHECK.due("a plain one alone", planned(Check.stack("plain", 1, 2), "turn 1;").again(), 1);
        CHECK.due("three of them", planned(Check.stack("plain", 1, 2, 3), "turn 3; turn 2;").again(), 3);
        // five: 1 2 3 4 5 by 5 and 4 comes to 2 3 4 5 1, and with sides each is back at 5 rounds, turned twice
        CHECK.due("five rounds", planned(Check.stack("browned", 1, 2, 3, 4, 5), "turn 5; turn 4;").again(), 10);
        String bars = Check.stack("browned", 1, 2) + "bars brown = 0 and take = 1;";
        CHECK.due("a line can't be", planned(bars, "turn 2; turn 1; turn 1;").again(), -1);
        CHECK.due("a line can't be the second time", planned(bars, "turn 2; turn 1;").again(), -1);
        CHECK.due("it can be as far as it goes", planned(bars, "turn 2; turn 2;").again(), 1);
        HotCakes y = planned(bars, "turn 1; turn 2;");
        CHECK.due("as told it can't be", y.again(), -1);
        CHECK.due("as it is: not the second time", y.turn(2) + y.again(), 0);
    }

    private static void spare() {
        CHECK.promise(35, "spare");
        CHECK.due("no cakes", new HotCakes().spare(), 0);
        CHECK.due("none", planned(Check.stack("browned", 1, 2), "turn 1; turn 2; turn 1;").spare(), 0);
        CHECK.due("1 of plain ones", planned(Check.stack("plain", 1, 2), "turn 1; turn 2; turn 1;").spare(), 2);
        CHECK.due("each alone, not two together", planned(Check.stack("browned", 1, 2), "turn 1; turn 1;").spare(), 0);
        CHECK.due("the same order is not enough", planned(Check.stack("browned", 1, 2), "turn 1;").spare(), 0);
        String bars = Check.stack("browned", 1, 2) + "bars brown = 0 and take = 1;";
        CHECK.due("one that can't be", planned(bars, "turn 1;").spare(), 1);
        // 2, 1, (1), 2: without the 2nd, the 3rd can be in its place; without the 3rd it is as with it
        HotCakes x = planned(bars, "turn 2; turn 1; turn 1; turn 2;");
        CHECK.due("the others as they can be", x.spare(), 2);
        x.turn(2);
        CHECK.due("from the stack as told", x.spare(), 2);
    }

    private static void ends() {
        CHECK.promise(36, "ends");
        CHECK.due("no cakes", new HotCakes().ends(), true);
        HotCakes x = planned(Check.stack("browned", -2, 1), "");
        CHECK.due("no lines", x.ends(), false);
        Check.plan(x, "turn 2; turn 1;");
        CHECK.due("served", x.ends(), true);
        x.turn(2);
        CHECK.due("from the stack as it is", x.ends(), false);
        x.turn(1);
        CHECK.due("served, but not behind it", x.served() && !x.ends(), true);
        CHECK.due("none moved", x.count(2), 2);
        CHECK.due("not served again behind more", planned(Check.stack("browned", -2, 1), "turn 2; turn 1; turn 1;").ends(), false);
        String bars = Check.stack("browned", 1, 2) + "bars brown = 0 and take = 1;";
        CHECK.due("a line that can't be is left out", planned(bars, "turn 1;").ends(), true);
    }
}
