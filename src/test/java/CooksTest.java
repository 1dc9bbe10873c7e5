import java.util.NoSuchElementException;

/** Promises 37 to 45: two cooks, what was seen, odd turns, a slice at rest, mornings by draws. */
public final class CooksTest {
    private static final Check CHECK = new Check();

    public static void main(String[] args) {
        cooks();
        seeing();
        lying();
        fitting();
        looking();
        chances();
        resting();
        mornings();
        CHECK.end();
    }

    private static void gameIs(String griddle, int who, int turns, int his) {
        HotCakes x = Check.with(griddle);
        CHECK.promise(37, "wins");
        CHECK.due("wins(0) of " + griddle, x.wins(0), who);
        CHECK.due("wins(1) of " + griddle, x.wins(1), turns);
        CHECK.due("wins(2)", x.wins(2), -2);
        CHECK.due("wins(-1)", x.wins(-1), -2);
        CHECK.promise(38, "his");
        CHECK.due("his() of " + griddle, x.his(), his);
    }

    private static void cooks() {
        gameIs("", 0, 0, -1);
        gameIs(Check.stack("browned", 1, 2), 0, 0, -1);
        gameIs(Check.stack("browned", -1), 1, 1, 1);
        gameIs(Check.stack("browned", -1) + "bars brown;", 0, 0, -1);
        gameIs(Check.stack("plain", 2, 1), 1, 1, 2);
        gameIs(Check.stack("plain", 2, 1) + "bars take = 2;", 2, -1, 1);
        gameIs(Check.stack("plain", 2, 1) + "bars 1;", 0, 0, -1);
        // on the ring of 8 who is two turns away goes the other way, for else the other one serves
        gameIs(Check.stack("browned", -2, 1), 2, -1, 1);
        gameIs(Check.stack("browned", 2, -1), 2, -1, 2);
        gameIs(Check.stack("browned", -1, -2), 2, -1, 1);
        // two turns away, and the other way is barred: the other one serves
        gameIs(Check.stack("browned", -2, 1) + "bars take = 1 and weight = 2;", 0, 2, 2);
        // both ways are barred but to and fro
        gameIs(Check.stack("browned", -2, 1) + "bars take = 1;", 2, -1, 2);
        // 1 never ends, 2 serves
        gameIs(Check.stack("browned", -2, -1), 1, 1, 2);
        // 1 loses in 2, 3 holds out for 8; then one in which 1 is as good as the best
        gameIs(Check.stack("browned", -4, -5, -3, -2) + "bars brown = 1 or weight + brown = 4 or take + brown = 4;", 0, 8, 3);
        gameIs(Check.stack("browned", 2, 5, -1, 4) + "bars brown = 1;", 0, 4, 1);
        HotCakes x = Check.with(Check.stack("browned", -2, 1) + "bars take = 1 and weight = 2;");
        CHECK.promise(37, "wins, from the stack as it is");
        x.turn(2);
        CHECK.due("the other one is the first one now", x.wins(0), 1);
        CHECK.due("and serves", x.his(), 1);
        CHECK.promise(38, "his, asked first");
        CHECK.due("he serves", Check.with(Check.stack("browned", -2, -1)).his(), 2);
        CHECK.due("another griddle", Check.griddle(x, Check.stack("browned", -1, 2)) + x.his(), 1);
        CHECK.due("another law", Check.griddle(x, Check.stack("browned", -1, 2) + "bars 1;") + x.his(), -1);
    }

    private static void seeing() {
        CHECK.promise(39, "see");
        HotCakes x = Check.with(Check.stack("browned", 1, 2, 3));
        CHECK.due("place 3", x.see(3, 0, true), false);
        CHECK.due("place -1", x.see(-1, 0, true), false);
        CHECK.due("cake 3", x.see(0, 3, true), false);
        CHECK.due("cake -1", x.see(0, -1, true), false);
        CHECK.due("none is seen", x.count(7), 0);
        CHECK.due("all fit", x.fit(), 48);
        CHECK.due("2 is on top", x.see(0, 2, true), true);
        CHECK.due("a third of them", x.fit(), 16);
        CHECK.due("0 is not in the middle", x.see(1, 0, false), true);
        CHECK.due("half of these", x.fit(), 8);
        for (int i = 2; i < 8; i++) {
            CHECK.due("seen once more", x.see(0, 2, true), true);
        }
        CHECK.due("a 9th", x.see(0, 1, true), false);
        CHECK.due("8 are there", x.count(7), 8);
        CHECK.due("the 9th tells none", x.fit(), 8);
        CHECK.due("without cakes", new HotCakes().see(0, 0, true), false);
        x.turn(3);
        x.undo();
        CHECK.due("turns change none of it", x.fit(), 8);
    }

    private static void lying() {
        CHECK.promise(40, "lies");
        HotCakes x = Check.with(Check.stack("browned", 1, 2, 3));
        CHECK.due("place 3", x.lies(3, true), false);
        CHECK.due("place -1", x.lies(-1, true), false);
        CHECK.due("the last one is up", x.lies(2, true), true);
        CHECK.due("half of them", x.fit(), 24);
        CHECK.due("the first one is not", x.lies(0, false), true);
        CHECK.due("a quarter of them", x.fit(), 12);
        for (int i = 2; i < 8; i++) {
            CHECK.due("once more", x.lies(2, true), true);
        }
        CHECK.due("a 9th", x.lies(2, false), false);
        CHECK.due("8 are there", x.count(7), 8);
        CHECK.due("without cakes", new HotCakes().lies(0, false), false);
    }

    private static void fitting() {
        CHECK.promise(41, "fit");
        CHECK.due("no cakes: the one stack there is", new HotCakes().fit(), 1);
        HotCakes x = Check.with("cake a plain wide 1 up; cake b browned wide 2 up;");
        CHECK.due("all", x.fit(), 4);
        x.lies(0, true);
        CHECK.due("only b can be up", x.fit(), 1);
        x.see(0, 0, true);
        CHECK.due("none fits", x.fit(), 0);
        HotCakes y = Check.with(Check.stack("heavy", -1, -2, -3));
        y.lies(1, false);
        CHECK.due("all lie down", y.fit(), 6);
        y.see(0, 0, false);
        y.see(0, 1, false);
        CHECK.due("2 is on top", y.fit(), 2);
        y.see(1, 0, true);
        CHECK.due("it is known", y.fit(), 1);
        HotCakes z = Check.with(Check.stack("browned", 1, 2) + "bars 1;");
        CHECK.due("it is not asked whether it can be come to", z.fit(), 8);
    }

    private static void looking() {
        CHECK.promise(42, "look");
        CHECK.due("no cakes", new HotCakes().look(), -1);
        HotCakes x = Check.with(Check.stack("browned", 1, 2, 3));
        CHECK.due("all alike: the first", x.look(), 0);
        x.see(0, 1, true);
        CHECK.due("the first one below", x.look(), 1);
        x.see(2, 0, true);
        CHECK.due("only lies are unknown: the first", x.look(), 0);
        x.lies(0, true);
        x.lies(1, false);
        CHECK.due("only one is unknown", x.look(), 2);
        x.lies(2, false);
        CHECK.due("all is known", x.look(), -1);
        x.lies(2, true);
        CHECK.due("none fits", x.fit() * 10 + x.look(), -1);
        HotCakes y = Check.with("cake a plain wide 1 up; cake b browned wide 2 up; cake c browned wide 3 up;");
        // where the plain one is known to lie, the others part them into four
        y.see(0, 0, true);
        CHECK.due("not where it is known", y.look(), 1);
        HotCakes z = Check.with(Check.stack("plain", 1, 2));
        z.see(1, 1, true);
        CHECK.due("one fits", z.look(), -1);
        HotCakes w = Check.with(Check.stack("plain", 1, 2, 3));
        w.see(2, 0, false);
        w.see(1, 2, false);
        // 0 1 2, 1 0 2, 2 0 1 fit: at 0 there are 0 1 2, at 1: 1 0 0, at 2: 2 2 1
        CHECK.due("three fit", w.fit(), 3);
        CHECK.due("the place where all differ", w.look(), 0);
        w.see(0, 2, false);
        CHECK.due("two fit, and the last is the same", w.look(), 0);
        HotCakes v = Check.with("cake a browned wide 1 up; cake b plain wide 2 up; cake c plain wide 3 up;");
        v.see(0, 2, false);
        v.see(1, 2, true);
        // a c b, b c a, a up or down: at 0 there are b twice, a down, a up; so at 2
        CHECK.due("a up and a down are two", v.look() * 10 + v.fit(), 4);
        v.see(0, 1, false);
        CHECK.due("a up or down", v.look() * 10 + v.fit(), 2);
        HotCakes u = Check.with("cake a browned wide 1 up; cake b browned wide 2 up; cake c plain wide 3 up;");
        u.see(0, 2, false);
        u.see(1, 1, false);
        // a c b, b a c, b c a, 4 each: at 0 b lies so in 4, at 1 c in 8, at 2 c in 4
        CHECK.due("the place with c twice is worse", u.look(), 0);
        u.see(0, 0, false);
        // b a c, b c a: at 0 b in 4, at 1 c in 4, at 2 c in 4
        u.lies(0, true);
        // at 0 all are alike, at 1 c in 2, a in 1 and 1
        CHECK.due("the first of those that are less", u.look() * 10 + u.fit(), 14);
    }

    private static void chances() {
        CHECK.promise(43, "chance");
        HotCakes x = Check.with(Check.stack("plain", 2, 1));
        CHECK.due("chance(0)", x.chance(0, false), -1);
        CHECK.due("chance(7)", x.chance(7, false), -1);
        CHECK.due("chance(-1), ever", x.chance(-1, true), -1);
        CHECK.due("without cakes", new HotCakes().chance(1, true), -1);
        CHECK.due("2 of 1, 2", x.chance(1, false), 500000);
        CHECK.due("1 2, 2 1", x.chance(2, false), 500000);
        CHECK.due("all but 1 1", x.chance(2, true), 750000);
        CHECK.due("all but 1 1 1 1 1 1", x.chance(6, true), 984375);
        x.turn(2);
        CHECK.due("served, 1 or twice 2", x.chance(2, false), 500000);
        CHECK.due("served behind 0", x.chance(6, true), 1000000);
        HotCakes three = Check.with(Check.stack("plain", 1, 2, 3));
        CHECK.due("cut", three.chance(1, false), 333333);
        three.turn(2);
        // 2 1 3: by 2, then 1; by 1, then 2
        CHECK.due("two of nine", three.chance(2, false), 222222);
        // by 2 at first, whatever comes then (3 of 9), or by 1, then 2
        CHECK.due("ever, four of nine", three.chance(2, true), 444444);
        HotCakes bars = Check.with(Check.stack("plain", 1, 2) + "bars take = 2;");
        CHECK.due("what can't be leaves it", bars.chance(6, false), 1000000);
        HotCakes one = Check.with(Check.stack("browned", -1));
        CHECK.due("one alone", one.chance(1, false), 1000000);
        CHECK.due("one alone, twice", one.chance(2, false), 0);
        CHECK.due("one alone, ever", one.chance(2, true), 1000000);
        HotCakes five = Check.with(Check.stack("plain", 5, 4, 3, 2, 1));
        CHECK.due("one of five", five.chance(1, false), 200000);
        CHECK.due("it is as it was", five.pairs(), 10);
    }

    private static int rests(HotCakes x, int lose, int turns, int waits, int what) {
        try {
            return x.rests(lose, turns, waits, what);
        } catch (NoSuchElementException none) {
            return -99;
        }
    }

    private static void restsAre(int lose, int turns, int waits, int... rests) {
        HotCakes x = new HotCakes();
        String game = "lose " + lose + ", turns " + turns + ", waits " + waits;
        CHECK.due("how many, " + game, rests(x, lose, turns, waits, -1), rests.length);
        for (int i = 0; i < rests.length; i++) {
            CHECK.due(i + ", " + game, rests(x, lose, turns, waits, i), rests[i]);
        }
        CHECK.due("none such, " + game, rests(x, lose, turns, waits, rests.length), -99);
        CHECK.due("-2, " + game, rests(x, lose, turns, waits, -2), -99);
    }

    private static void resting() {
        CHECK.promise(44, "rests");
        restsAre(2, 5, 1, 1, 2);
        restsAre(0, 0, 0, 0, 1, 2, 3);
        restsAre(0, 9, 0, 1, 2, 3);
        restsAre(9, 0, 9, 0, 1, 2);
        restsAre(0, 9, 1, 1, 2);
        restsAre(1, 0, 0, 0, 1, 2);
        HotCakes x = new HotCakes();
        int[][] wrong = {{-1, 5, 1}, {10, 5, 1}, {2, -1, 1}, {2, 10, 1}, {2, 5, -1}, {2, 5, 10}};
        for (int[] each : wrong) {
            CHECK.due("others", rests(x, each[0], each[1], each[2], -1), -99);
            CHECK.due("others, 0", rests(x, each[0], each[1], each[2], 0), -99);
        }
        CHECK.due("the greatest", rests(x, 2, 5, 1, Integer.MAX_VALUE), -99);
        CHECK.due("the least", rests(x, 2, 5, 1, Integer.MIN_VALUE), -99);
    }

    private static void mornings() {
        CHECK.promise(45, "mornings");
        // the draws by 1, known of old: 16838 5758 10113 17515 31051 5627; below 3: 2 1 0 1 1 2
        String three = Check.stack("plain", 3, 1, 2);
        HotCakes x = Check.with(three + "costs take;");
        CHECK.due("how many", x.mornings(1, 6, 0), 6);
        CHECK.due("how much: 3 2 1 2 2 3", x.mornings(1, 6, 1), 13);
        CHECK.due("one alone: 3", x.mornings(1, 1, 1), 3);
        CHECK.due("3, 2: served", x.mornings(1, 6, 2), 2);
        CHECK.due("not by one", x.mornings(1, 1, 2), -1);
        CHECK.due("all is as ahead", x.mornings(1, 6, 2) == 2 && x.count(2) == 0 && x.there(0) == 0, true);
        HotCakes bars = Check.with(three + "costs take; bars take = 1;");
        CHECK.due("how many can be", bars.mornings(1, 6, 0), 5);
        CHECK.due("how much without 1", bars.mornings(1, 6, 1), 12);
        HotCakes all = Check.with(three + "bars 1;");
        CHECK.due("none can be", all.mornings(1, 99, 0), 0);
        CHECK.due("none costs", all.mornings(1, 99, 1), 0);
        CHECK.due("never served", all.mornings(1, 99, 2), -1);
        x.turn(3);
        x.turn(2);
        CHECK.due("now", x.mornings(5, 9, 2), 0);
        HotCakes first = Check.with(Check.stack("plain", 2, 1, 3) + "bars take = 3;");
        CHECK.due("behind a draw that can't be and one that can", first.mornings(1, 6, 2), 2);
        CHECK.due("seed 9999", x.mornings(9999, 99, 0), 99);
        CHECK.due("seed 0", x.mornings(0, 1, 1), 1);
        CHECK.due("no cakes: none", new HotCakes().mornings(1, 5, 0), 0);
        CHECK.due("no cakes: nothing", new HotCakes().mornings(1, 5, 1), 0);
        CHECK.due("no cakes: now", new HotCakes().mornings(1, 5, 2), 0);
        int[][] wrong = {{-1, 5, 0}, {10000, 5, 0}, {1, 0, 0}, {1, 100, 0}, {1, 5, -1}, {1, 5, 3}, {1, -5, 2}};
        for (int[] each : wrong) {
            CHECK.due("others", x.mornings(each[0], each[1], each[2]), -2);
        }
    }
}
