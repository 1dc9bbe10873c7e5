/**
 * "Terms" 3 as far as promises 29 and 34 to 38 go, sentence by sentence: no lines, all lines, none that can be, what
 * is refused; two cooks. The words of the document stand ahead of their tests.
 */
public final class PlansEdgesTest {
    private static final Check CHECK = new Check();
    private static final int LEAST = Integer.MIN_VALUE;
    private static final int GREATEST = Integer.MAX_VALUE;
    private static final String TWO = Check.stack("browned", 1, 2);
    private static final String FIVE = Check.stack("browned", 1, 2, 3, 4, 5);
    /** None that lies down is turned alone. */
    private static final String ONE_WAY = "bars take = 1 and brown = 0;";

    public static void main(String[] args) {
        rings();
        ringsBarred();
        again();
        againBarred();
        spare();
        ends();
        wins();
        winsAndHis();
        cooksAsItIs();
        CHECK.end();
    }

    private static HotCakes planned(String griddle, String plan) {
        HotCakes x = Check.with(griddle);
        CHECK.due("plan '" + plan + "'", Check.plan(x, plan), 0);
        return x;
    }

    // ---- ring ----

    private static void rings() {
        CHECK.sentence("promise 29", "NONE: others");
        for (int many : new int[] {0, -1, 3, 4, GREATEST, LEAST}) {
            CHECK.due("ring(" + many + ", 1)", Check.with(TWO).ring(many, 1), -1);
            CHECK.due("ring(1, " + many + ")", Check.with(TWO).ring(1, many), -1);
            CHECK.due("ring(" + many + ", " + many + ")", Check.with(TWO).ring(many, many), -1);
        }
        CHECK.due("of no cakes", new HotCakes().ring(1, 1), -1);
        CHECK.due("of no cakes, 0", new HotCakes().ring(0, 0), -1);
        CHECK.due("6 of five", Check.with(FIVE).ring(5, 6), -1);
        CHECK.sentence("Terms 3, promise 29",
            "RING of two numbers: [...] behind how many TURNS (2, 4, .. 120) it is as it is now");
        int[][] ring = {{2, 8, 8, 8, 8}, {8, 2, 12, 8, 8}, {8, 12, 2, 16, 24}, {8, 8, 16, 2, 20}, {8, 8, 24, 20, 2}};
        for (int first = 1; first <= 5; first++) {
            for (int other = 1; other <= 5; other++) {
                CHECK.due("ring(" + first + ", " + other + ")", Check.with(FIVE).ring(first, other),
                    ring[first - 1][other - 1]);
            }
        }
        CHECK.due("one alone", Check.with(Check.stack("browned", 1)).ring(1, 1), 2);
        CHECK.due("one alone without a side: not behind one turn", Check.with(Check.stack("plain", 1)).ring(1, 1), 2);
        CHECK.due("not behind three, though it is so then", Check.with(Check.stack("plain", 1, 2)).ring(1, 2), 4);
        HotCakes x = Check.with(FIVE);
        x.turn(4);
        x.turn(3);
        CHECK.due("from the stack as it is", x.ring(3, 5), 24);
        CHECK.due("none was turned", x.count(2) * 10 + x.there(0), 21);
    }

    private static void ringsBarred() {
        String three = Check.stack("browned", 1, 2, 3);
        CHECK.sentence("Terms 3, promise 29", "these are TURNED by turns, the first one first");
        CHECK.due("1 first: 3 can be each time", Check.with(three + "bars take = 3 and brown = 0;").ring(1, 3), 8);
        CHECK.due("3 first: it can't be", Check.with(three + "bars take = 3 and brown = 0;").ring(3, 1), -1);
        CHECK.due("1 first: 3 can't be once", Check.with(three + "bars take = 3 and brown = 3;").ring(1, 3), -1);
        CHECK.due("3 first: it can be each time", Check.with(three + "bars take = 3 and brown = 3;").ring(3, 1), 8);
        CHECK.sentence("Terms 3, promise 29", "none if one can't be on the way");
        CHECK.due("the first one never", Check.with(TWO + "bars take = 1;").ring(1, 2), -1);
        CHECK.due("the other one never", Check.with(TWO + "bars take = 2;").ring(1, 2), -1);
        CHECK.due("the first turn", Check.with(TWO + ONE_WAY).ring(1, 2), -1);
        CHECK.due("a later one", Check.with(TWO + ONE_WAY).ring(2, 1), -1);
        CHECK.due("the last but one", Check.with(Check.stack("browned", 1, -2) + ONE_WAY).ring(2, 2), 2);
        CHECK.due("all", Check.with(TWO + "bars 1;").ring(1, 1), -1);
        CHECK.due("glazed", Check.with("cake a glazed wide 1 down; cake b plain wide 2 down;").ring(2, 1), -1);
        CHECK.due("what is not on the way may be barred", Check.with(three + "bars take = 2;").ring(1, 3), 8);
    }

    // ---- again ----

    private static void again() {
        CHECK.sentence("promise 34", "AGAIN (1: no lines)");
        CHECK.due("no cakes", new HotCakes().again(), 1);
        CHECK.due("no plan", Check.with(TWO).again(), 1);
        CHECK.due("an empty plan", planned(TWO, "").again(), 1);
        CHECK.due("all barred", planned(TWO + "bars 1;", "").again(), 1);
        CHECK.sentence("Terms 3, promise 34", "behind how many times (1 to 60) the STACK is as it is now");
        String[] plans = {"turn 1; turn 1;", "turn 1;", "turn 1; turn 2; turn 3;", "turn 1; turn 2;",
            "turn 1; turn 4; turn 5;", "turn 2; turn 3;", "turn 3; turn 4;", "turn 4; turn 5;", "turn 3; turn 5;"};
        int[] times = {1, 2, 3, 4, 5, 6, 8, 10, 12};
        for (int i = 0; i < plans.length; i++) {
            CHECK.due("again() of '" + plans[i] + "'", planned(FIVE, plans[i]).again(), times[i]);
        }
        CHECK.due("as it is amid the plan is not behind it", planned(TWO, "turn 1; turn 1; turn 1;").again(), 2);
        CHECK.due("40 lines", planned(TWO, "turn 1; ".repeat(40)).again(), 1);
        CHECK.due("1 of plain ones", planned(Check.stack("plain", 1, 2), "turn 1;").again(), 1);
        HotCakes x = planned(TWO, "turn 1;");
        x.turn(2);
        CHECK.due("as it is, not as told", x.again(), 2);
        CHECK.due("none was turned", x.count(2) * 10 + x.there(0), 11);
    }

    private static void againBarred() {
        CHECK.sentence("Terms 3, promise 34", "none if a line can't be on the way");
        CHECK.due("the first line, the first time", planned(TWO + ONE_WAY, "turn 1; turn 1;").again(), -1);
        CHECK.due("the last line, the first time", planned(TWO + ONE_WAY, "turn 2; turn 2; turn 1;").again(), -1);
        CHECK.due("the last line, the second time", planned(TWO + ONE_WAY, "turn 2; turn 1;").again(), -1);
        CHECK.due("all", planned(TWO + "bars 1;", "turn 1;").again(), -1);
        CHECK.due("lines that can't be are not left out", planned(TWO + ONE_WAY, "turn 1;").again(), -1);
        CHECK.due("a glazed one",
            planned("cake a glazed wide 1 down; cake b plain wide 2 down;", "turn 2; turn 2;").again(), -1);
        CHECK.due("a glazed one, the second time",
            planned("cake a glazed wide 1 down; cake b plain wide 2 down;", "turn 2; turn 1;").again(), -1);
        HotCakes x = planned(TWO + ONE_WAY, "turn 1; turn 2;");
        CHECK.due("as told it can't be", x.again(), -1);
        HotCakes y = planned(Check.stack("browned", -1, 2) + ONE_WAY, "turn 2; turn 2;");
        CHECK.due("what is not on the way may be barred", y.again(), 1);
    }

    // ---- spare, ends ----

    private static void spare() {
        CHECK.sentence("Terms 3, promise 35", "SPARE: lines of the PLAN, how many");
        CHECK.due("no cakes", new HotCakes().spare(), 0);
        CHECK.due("no plan", Check.with(TWO).spare(), 0);
        CHECK.due("an empty plan", planned(TWO, "").spare(), 0);
        CHECK.due("all 40, which move none", planned(Check.stack("plain", 1, 2), "turn 1; ".repeat(40)).spare(), 40);
        CHECK.due("all 40, barred", planned(TWO + "bars 1;", "turn 1; turn 2; ".repeat(20)).spare(), 40);
        CHECK.due("none of 40", planned(TWO, "turn 1; ".repeat(40)).spare(), 0);
        CHECK.due("the first one alone", planned(Check.stack("plain", 1, 2), "turn 1; turn 2;").spare(), 1);
        CHECK.due("the last one alone", planned(Check.stack("plain", 1, 2), "turn 2; turn 1;").spare(), 1);
        CHECK.sentence("Terms 3, promise 35", "each alone such that without it");
        CHECK.due("two together could be left out", planned(TWO, "turn 1; turn 1;").spare(), 0);
        CHECK.due("two of three could be", planned(TWO, "turn 2; turn 2; turn 2;").spare(), 0);
        CHECK.sentence("Terms 3, promise 35", "(the others done as they can be)");
        // the second 1 can't be, but without the first one it is in its place
        CHECK.due("one takes the place of another", planned(TWO + ONE_WAY, "turn 2; turn 1; turn 1; turn 2;").spare(), 2);
        CHECK.due("one that can't be", planned(TWO + ONE_WAY, "turn 1;").spare(), 1);
        CHECK.due("one without which another can't be", planned(TWO + ONE_WAY, "turn 2; turn 1;").spare(), 0);
        CHECK.sentence("Terms 3, promise 35", "the STACK as told");
        HotCakes x = planned(TWO + ONE_WAY, "turn 1;");
        CHECK.due("as told 1 can't be", x.spare(), 1);
        x.turn(2);
        CHECK.due("whatever can be now", (x.can(1) ? 10 : 0) + x.spare(), 11);
        CHECK.sentence("Terms 3, promise 35", "ends in the same order, lying the same way, as with it");
        CHECK.due("the same order, lying otherwise", planned(TWO, "turn 1;").spare(), 0);
        CHECK.due("without sides the same", planned(Check.stack("heavy", 1, 2), "turn 1;").spare(), 1);
        CHECK.due("another order", planned(Check.stack("plain", 1, 2), "turn 2;").spare(), 0);
    }

    private static void ends() {
        CHECK.sentence("Terms 3, promise 36", "ENDS: whether the PLAN, from the STACK as it is, [...] ends SERVED");
        CHECK.due("no cakes", new HotCakes().ends(), true);
        CHECK.due("no lines, served", planned(TWO, "").ends(), true);
        CHECK.due("no lines, not served", planned(Check.stack("browned", -1, 2), "").ends(), false);
        CHECK.due("behind the last line", planned(Check.stack("browned", -1, 2), "turn 1;").ends(), true);
        CHECK.due("not behind the last line", planned(Check.stack("browned", -1, 2), "turn 1; turn 1;").ends(), false);
        CHECK.due("behind 40", planned(TWO, "turn 1; ".repeat(40)).ends(), true);
        CHECK.due("behind 39", planned(TWO, "turn 1; ".repeat(39)).ends(), false);
        HotCakes x = planned(TWO, "turn 1;");
        CHECK.due("as told", x.ends(), false);
        x.turn(1);
        CHECK.due("as it is", x.ends(), true);
        CHECK.due("none was turned", x.count(2), 1);
        CHECK.sentence("Terms 3, promise 36", "lines that can't be left out");
        CHECK.due("all lines", planned(TWO + "bars 1;", "turn 1; turn 2;").ends(), true);
        CHECK.due("the first one",
            planned(Check.stack("browned", -2, 1) + "bars take = 1 and weight = 2;", "turn 1; turn 2; turn 1;").ends(),
            true);
        CHECK.due("the last one", planned(Check.stack("browned", -1, 2) + ONE_WAY, "turn 1; turn 1;").ends(), true);
    }

    // ---- two cooks ----

    private static void gameIs(String griddle, int who, int turns, int his) {
        CHECK.due("his(), asked first, of " + griddle, Check.with(griddle).his(), his);
        CHECK.due("wins(1), asked first, of " + griddle, Check.with(griddle).wins(1), turns);
        HotCakes x = Check.with(griddle);
        CHECK.due("wins(0) of " + griddle, x.wins(0), who);
        CHECK.due("wins(1) of " + griddle, x.wins(1), turns);
        CHECK.due("his() of " + griddle, x.his(), his);
        CHECK.due("none was turned", x.count(2), 0);
    }

    private static void wins() {
        CHECK.sentence("promise 37", "-2: others");
        for (int what : new int[] {-1, -2, 2, 3, GREATEST, LEAST}) {
            CHECK.due("wins(" + what + ")", Check.with(TWO).wins(what), -2);
            CHECK.due("wins(" + what + ") of none", new HotCakes().wins(what), -2);
        }
        CHECK.sentence("Terms 3, promises 37 and 38", "who makes it SERVED has won");
        gameIs(Check.stack("browned", -1), 1, 1, 1);
        gameIs(Check.stack("plain", 5, 4, 3, 2, 1), 1, 1, 5);
        CHECK.sentence("Terms 3, promises 37 and 38", "(if it is: the other one) [...] NONE: it is SERVED");
        gameIs("", 0, 0, -1);
        gameIs(TWO, 0, 0, -1);
        gameIs(Check.stack("plain", 1), 0, 0, -1);
        gameIs(TWO + "bars 1;", 0, 0, -1);
        gameIs(TWO + "bars brown;", 0, 0, -1);
        CHECK.sentence("Terms 3, promises 37 and 38", "who can't has lost [...] NONE: it is SERVED, there is none");
        gameIs(Check.stack("browned", 2, 1) + "bars 1;", 0, 0, -1);
        gameIs(Check.stack("browned", -1) + "bars brown;", 0, 0, -1);
        gameIs(Check.stack("browned", 1, 3, 2) + "bars brown = 0;", 0, 0, -1);
        gameIs("cake a glazed wide 2 down; cake b glazed wide 1 down; bars take = 1;", 0, 0, -1);
        CHECK.sentence("Terms 3, promises 37 and 38, of the other one", "who can't has lost");
        gameIs(Check.stack("browned", 2, 1) + "bars take = 2 or brown;", 1, 1, 1);
        CHECK.sentence("Terms 3, promise 37", "2 it never ends [...] (NONE: it never ends)");
        gameIs(Check.stack("plain", 2, 1) + "bars take = 2;", 2, -1, 1);
        gameIs(Check.stack("browned", -1, -2), 2, -1, 1);
    }

    /** Worked out by another program: for each turn that can be, behind how many turns it ends then (never: it does not). */
    private static void winsAndHis() {
        CHECK.sentence("Terms 3", "Each turns so as to win");
        // 1 never, 2 wins, 3 never; 1 never, 2 never, 3 wins
        gameIs(Check.stack("browned", -2, -1, 3), 1, 1, 2);
        gameIs(Check.stack("browned", -3, -2, -1), 1, 1, 3);
        gameIs(Check.stack("browned", 1, 2, -3) + "bars weight = 5 or brown = 2;", 1, 3, 3);
        gameIs(Check.stack("browned", 1, -3, -2) + "bars brown = 1;", 1, 5, 3);
        CHECK.sentence("Terms 3", "else so that it never ends");
        // 1 loses, 2 and 3 never
        gameIs(Check.stack("browned", 2, -1, 3), 2, -1, 2);
        gameIs(Check.stack("browned", -3, 1, 2) + "bars take = 1 and brown = 1;", 2, -1, 2);
        CHECK.sentence("Terms 3", "else so as to lose late [...] the loser's as many as they can make them");
        // 1 loses in 4, 2 in 2; then 1 in 6, 3 in 2; then 1 in 2, 3 in 8
        gameIs("cake a browned wide 2 down; cake b browned wide 3 down; cake c browned wide 1 up; bars brown = 1;", 0, 4, 1);
        gameIs("cake a glazed wide 3 down; cake b browned wide 1 up; cake c browned wide 2 up; bars brown = 1;", 0, 6, 1);
        gameIs(Check.stack("browned", -4, -5, -3, -2) + "bars brown = 1 or weight + brown = 4 or take + brown = 4;",
            0, 8, 3);
        gameIs(Check.stack("browned", 1, -2, 3) + "bars brown = 1;", 0, 2, 1);
        CHECK.sentence("Terms 3", "in how many TURNS, the winner's as few");
        // 2 wins in 5, 3 in 1; then 1 in 5, 2 in 3
        gameIs(Check.stack("browned", -3, -2, -1) + "bars brown = 1;", 1, 1, 3);
        gameIs("cake a glazed wide 3 down; cake b browned wide 2 down; cake c browned wide 1 up; bars brown = 1;", 1, 3, 2);
        CHECK.sentence("Terms 3, promise 38", "HIS: the TURN that the first one should make so; of equal ones the least");
        gameIs(Check.stack("browned", -2, -1, 3) + "bars brown = 1;", 1, 1, 2);
        gameIs("cake a browned wide 1 down; cake b plain wide 2 down; cake c browned wide 3 up;"
            + "bars weight = 2 or brown = 1;", 1, 3, 1);
        gameIs(Check.stack("browned", -1, 2, 3) + "bars weight = 1 or brown = 0;", 0, 2, 2);
        gameIs(Check.stack("browned", 1, 2, -3), 2, -1, 1);
    }

    private static void cooksAsItIs() {
        CHECK.sentence("Terms 3", "COOKS: two turn by turns from the STACK as it is, the first one first");
        HotCakes x = Check.with(Check.stack("browned", 1, -3, -2) + "bars brown = 1;");
        int[] who = {1, 0, 1, 0, 1, 0};
        for (int left = 5; left > 0; left--) {
            CHECK.due("turns that are left", x.wins(1), left);
            CHECK.due("who", x.wins(0), who[5 - left]);
            CHECK.due("it is turned so", x.turn(x.his()), 1);
        }
        CHECK.due("at the end the first one has lost", x.wins(0) * 10 + x.wins(1), 0);
        CHECK.due("and turns none", x.his(), -1);
        Check.griddle(x, Check.stack("browned", 1, -3, -2));
        CHECK.due("on another griddle", x.wins(0), 2);
        Check.griddle(x, Check.stack("browned", 1, -3, -2) + "bars 1;");
        CHECK.due("on a third one", x.wins(0) * 10 + x.wins(1), 0);
        CHECK.due("behind other questions", x.chance(2, true) + x.ways() + x.wins(0), 0);
    }
}
