import java.util.NoSuchElementException;

/**
 * "Terms" 3 as far as promises 39 to 45 go, sentence by sentence: nothing seen, all seen, none that fits, the greatest
 * and the least that may be told. The words of the document stand ahead of their tests.
 */
public final class SeenEdgesTest {
    private static final Check CHECK = new Check();
    private static final int LEAST = Integer.MIN_VALUE;
    private static final int GREATEST = Integer.MAX_VALUE;
    private static final int[] NO_PLACES = {-1, -2, 3, 4, 5, 7, 8, GREATEST, LEAST};

    public static void main(String[] args) {
        see();
        lies();
        eight();
        fit();
        look();
        lookFirst();
        lookAmongMany();
        chanceRefused();
        chance();
        ever();
        rests();
        allRests();
        morningsRefused();
        mornings();
        draws();
        CHECK.end();
    }

    private static HotCakes three() {
        return Check.with(Check.stack("browned", 1, 2, 3));
    }

    // ---- seen ----

    private static void see() {
        CHECK.sentence("promise 39", "false: others");
        for (int none : NO_PLACES) {
            HotCakes x = three();
            CHECK.due("place " + none, x.see(none, 0, true) || x.see(none, 0, false), false);
            CHECK.due("cake " + none, x.see(0, none, true) || x.see(0, none, false), false);
            CHECK.due("nothing is seen", x.count(7) * 100 + x.fit(), 48);
        }
        CHECK.due("without cakes", new HotCakes().see(0, 0, true), false);
        CHECK.sentence("Terms 3, promise 39", "has a CAKE at a place (from the top, from 0), or has not");
        for (int place = 0; place < 3; place++) {
            for (int cake = 0; cake < 3; cake++) {
                HotCakes x = three();
                CHECK.due("cake " + cake + " at " + place, x.see(place, cake, true), true);
                CHECK.due("a third", x.fit(), 16);
                HotCakes y = three();
                CHECK.due("cake " + cake + " not at " + place, y.see(place, cake, false), true);
                CHECK.due("two thirds", y.fit(), 32);
                y.see(place, cake, true);
                CHECK.due("both", y.fit(), 0);
            }
        }
        CHECK.sentence("Terms 3, not the stack that is", "an unknown one of ALL STACKS");
        HotCakes x = three();
        CHECK.due("what is not so", x.see(0, 2, true), true);
        CHECK.due("fits others", x.fit(), 16);
        CHECK.due("moves none", x.there(0), 0);
        x.turn(3);
        CHECK.due("is not moved", x.fit() * 10 + x.count(7), 161);
    }

    private static void lies() {
        CHECK.sentence("promise 40", "false: others");
        for (int none : NO_PLACES) {
            HotCakes x = three();
            CHECK.due("place " + none, x.lies(none, true) || x.lies(none, false), false);
            CHECK.due("nothing is seen", x.count(7) * 100 + x.fit(), 48);
        }
        CHECK.due("without cakes", new HotCakes().lies(0, true), false);
        CHECK.sentence("Terms 3, promise 40", "that what lies at a place lies up, or does not");
        for (int place = 0; place < 3; place++) {
            HotCakes x = three();
            CHECK.due("up at " + place, x.lies(place, true), true);
            CHECK.due("half", x.fit(), 24);
            CHECK.due("down, too", x.lies(place, false), true);
            CHECK.due("both", x.fit(), 0);
        }
        HotCakes x = Check.with("cake a plain wide 1 up; cake b glazed wide 2 up; cake c heavy wide 3 up;");
        x.lies(1, true);
        CHECK.due("only b can lie up", x.fit(), 2);
        HotCakes y = Check.with("cake a plain wide 1 up; cake b glazed wide 2 up; cake c heavy wide 3 up;");
        y.lies(1, false);
        CHECK.due("all others", y.fit(), 10);
    }

    private static void eight() {
        CHECK.sentence("Terms 3, promises 39 and 40", "8 at most [...] false: others, 8 there are");
        HotCakes x = three();
        for (int i = 0; i < 8; i++) {
            CHECK.due("seen " + i, i % 2 == 0 ? x.see(0, 0, true) : x.lies(0, true), true);
            CHECK.due("count(7)", x.count(7), i + 1);
        }
        CHECK.due("the 9th, a cake", x.see(1, 0, true), false);
        CHECK.due("the 9th, how one lies", x.lies(0, false), false);
        CHECK.due("8 there are", x.count(7), 8);
        CHECK.due("the 9th tells nothing", x.fit(), 8);
        HotCakes y = three();
        for (int i = 0; i < 7; i++) {
            y.see(0, 0, true);
        }
        y.see(1, 1, true);
        CHECK.due("the 8th tells", y.fit(), 8);
        HotCakes z = Check.with(Check.stack("browned", 1, 2, 3, 4, 5));
        z.see(4, 4, true);
        z.lies(4, false);
        CHECK.due("the last cake at the last place of five", z.fit(), 24 * 16);
    }

    private static void fit() {
        CHECK.sentence("Terms 3, promise 41", "FIT: how many there are by which all SEEN is so");
        CHECK.due("no cakes: the one there is", new HotCakes().fit(), 1);
        CHECK.due("nothing seen: all", Check.with(Check.stack("browned", 1, 2, 3, 4, 5)).fit(), 3840);
        CHECK.due("those that can't be come to, too", Check.with(Check.stack("browned", 1, 2, 3, 4, 5) + "bars 1;").fit(),
            3840);
        HotCakes x = three();
        x.see(0, 2, true);
        x.see(1, 0, true);
        CHECK.due("one order", x.fit(), 8);
        x.lies(0, true);
        x.lies(1, false);
        x.lies(2, true);
        CHECK.due("one", x.fit(), 1);
        x.see(2, 0, true);
        CHECK.due("none: two at once", x.fit(), 0);
        HotCakes y = three();
        y.see(0, 0, false);
        y.see(0, 1, false);
        y.see(0, 2, false);
        CHECK.due("none: no cake at all", y.fit(), 0);
    }

    private static void look() {
        CHECK.sentence("promise 42", "NONE: none parts them [...] if that is less than all");
        CHECK.due("no cakes", new HotCakes().look(), -1);
        CHECK.due("one without a side", Check.with(Check.stack("plain", 1)).look(), -1);
        CHECK.due("one with a side", Check.with(Check.stack("browned", 1)).look(), 0);
        HotCakes x = Check.with(Check.stack("plain", 1, 2));
        CHECK.due("two", x.look(), 0);
        x.see(1, 0, true);
        CHECK.due("one fits", x.look() * 10 + x.fit(), -9);
        x.see(1, 0, false);
        CHECK.due("none fits", x.look() * 10 + x.fit(), -10);
        CHECK.sentence("Terms 3, promise 42", "the place at which the greatest number of these that have the same CAKE,"
            + " lying the same way, there is the least");
        HotCakes y = Check.with(Check.stack("plain", 1, 2, 3));
        y.see(0, 2, false);
        y.see(2, 0, false);
        // 0 1 2, 0 2 1, 1 0 2: at 0 twice 0, at 1 all differ, at 2 twice 2
        CHECK.due("the place in the middle", y.look() * 10 + y.fit(), 13);
        HotCakes z = Check.with(Check.stack("plain", 1, 2, 3));
        z.see(0, 1, false);
        z.see(1, 2, false);
        // 0 1 2, 2 0 1, 2 1 0: at 0 twice 2, at 1 twice 1, at 2 all differ
        CHECK.due("the last place", z.look() * 10 + z.fit(), 23);
        HotCakes up = Check.with("cake a browned wide 1 up; cake b plain wide 2 up;");
        up.see(0, 1, true);
        CHECK.due("the same cake, lying otherwise", up.look() * 10 + up.fit(), 12);
        HotCakes way = Check.with("cake a browned wide 1 up; cake b plain wide 2 up; cake c plain wide 3 up;");
        way.see(1, 0, true);
        // b a c and c a b, a up or down: at 0 and 2 each cake twice, at 1 a twice up, twice down
        CHECK.due("three places alike", way.look() * 10 + way.fit(), 4);
    }

    private static void lookFirst() {
        CHECK.sentence("Terms 3, promise 42", "of equal ones the first");
        CHECK.due("all of five", Check.with(Check.stack("browned", 1, 2, 3, 4, 5)).look(), 0);
        HotCakes x = Check.with(Check.stack("plain", 1, 2, 3, 4, 5));
        for (int place = 0; place < 3; place++) {
            CHECK.due("the first that is unknown", x.look(), place);
            x.see(place, place, true);
        }
        CHECK.due("two fit", x.look() * 10 + x.fit(), 32);
        HotCakes y = Check.with(Check.stack("plain", 1, 2, 3, 4, 5));
        y.see(4, 0, true);
        y.see(0, 4, true);
        y.see(1, 3, true);
        CHECK.due("the third and the fourth", y.look(), 2);
    }

    /** Cakes by their kinds' letters, then what is seen: sPC a cake at a place, S not, lP up at a place, L not. */
    private static void lookIs(int place, int fit, String kinds, String... seen) {
        StringBuilder text = new StringBuilder();
        for (int i = 0; i < kinds.length(); i++) {
            char kind = kinds.charAt(i);
            text.append("cake ").append((char) ('a' + i)).append(' ')
                .append(kind == 'p' ? "plain" : kind == 'b' ? "browned" : kind == 'h' ? "heavy" : "glazed")
                .append(" wide ").append(i + 1).append(" down; ");
        }
        HotCakes x = Check.with(text.toString());
        for (String each : seen) {
            boolean so = each.charAt(0) >= 'a';
            int at = each.charAt(1) - '0';
            boolean told = each.length() > 2 ? x.see(at, each.charAt(2) - '0', so) : x.lies(at, so);
            CHECK.due("seen " + each, told, true);
        }
        CHECK.due("fit() of " + kinds + " " + String.join(" ", seen), x.fit(), fit);
        CHECK.due("look() of " + kinds + " " + String.join(" ", seen), x.look(), place);
    }

    /** Worked out by another program. */
    private static void lookAmongMany() {
        CHECK.sentence("Terms 3, promise 42, of some, or many", "the same CAKE, lying the same way");
        // the greatest numbers by place: 36 24 24 24 24; 6 8 5 5; 12 4 4 2; 12 48 12 12 6
        lookIs(1, 72, "hgghh", "S43", "l0");
        lookIs(2, 10, "bhbh", "L1", "l0", "S10", "S11");
        lookIs(3, 12, "pbbb", "L1", "s00", "s00", "S01", "l2");
        lookIs(4, 48, "bbbbp", "s14", "S12", "L0", "L3", "l2");
        // 288 192 288 384 288; 32 32 16 32 32; 12 12 12 6; 48 32 112 32 24
        lookIs(1, 1248, "pgbbb", "S10", "S31");
        lookIs(2, 64, "ggpbg", "S33", "s34", "s00", "S22");
        lookIs(3, 36, "bggb", "S03", "l2", "l1", "l0");
        lookIs(4, 112, "gbbhb", "S43", "l2", "S02", "s21");
        lookIs(1, 2, "bb", "s00", "l0");
        lookIs(0, 2, "bb", "s11", "L1");
    }

    // ---- chance ----

    private static void chanceRefused() {
        CHECK.sentence("Terms 3, promise 43", "NONE: others [...] so many (1 to 6) times");
        for (int times : new int[] {0, -1, 7, 8, GREATEST, LEAST}) {
            CHECK.due("chance(" + times + ", false)", three().chance(times, false), -1);
            CHECK.due("chance(" + times + ", true)", three().chance(times, true), -1);
        }
        CHECK.sentence("promise 43", "NONE: [...] no CAKES");
        for (int times = 1; times <= 6; times++) {
            CHECK.due("chance(" + times + ", ..)", new HotCakes().chance(times, times % 2 == 0), -1);
        }
    }

    private static void chance() {
        CHECK.sentence("Terms 3, promise 43",
            "each of so many (1 to 6) times a number of 1 to all CAKES, each alike, is TURNED");
        int[] back = {200000, 80000, 80000, 51200, 42560, 32000};
        int[] none = {0, 0, 0, 0, 0, 64};
        String five = Check.stack("browned", -3, 1, 5, -2, 4);
        for (int times = 1; times <= 6; times++) {
            CHECK.due("plain 5 4 3 2 1, " + times, Check.with(Check.stack("plain", 5, 4, 3, 2, 1)).chance(times, false),
                back[times - 1]);
            CHECK.due("browned, far away, " + times, Check.with(five).chance(times, false), none[times - 1]);
        }
        CHECK.due("one: each number is 1", Check.with(Check.stack("browned", -1)).chance(1, false), 1000000);
        CHECK.sentence("Terms 3, promise 43", "if it can be");
        CHECK.due("none can be, served", Check.with(Check.stack("browned", 1, 2) + "bars 1;").chance(6, false), 1000000);
        CHECK.due("none can be, not served", Check.with(Check.stack("browned", 2, 1) + "bars 1;").chance(6, false), 0);
        int[] barred = {200000, 8000, 72000, 7680, 31040};
        for (int times = 2; times <= 6; times++) {
            CHECK.due("some can't be, " + times,
                Check.with(Check.stack("browned", 1, 2, 3, 4, 5) + "bars take = 2 and brown = 1;").chance(times, false),
                barred[times - 2]);
        }
        CHECK.sentence("Terms 3, promise 43", "that it is SERVED behind these, in millionths, cut");
        CHECK.due("a third", Check.with(Check.stack("plain", 1, 2, 3)).chance(1, false), 333333);
        CHECK.due("two thirds", Check.with(Check.stack("plain", 1, 2, 3) + "bars take = 3;").chance(1, false), 666666);
        CHECK.due("all", Check.with(Check.stack("plain", 1)).chance(6, false), 1000000);
        CHECK.due("none", Check.with(Check.stack("browned", 1)).chance(1, false), 0);
        HotCakes x = three();
        int sixth = x.chance(6, false);
        CHECK.due("it is as it was", x.count(2) * 10 + x.there(0), 0);
        CHECK.due("asked again", x.chance(6, false), sixth);
        CHECK.due("asked behind other questions", x.ways() + x.wins(0) >= 0 ? x.chance(1, false) : -9, 0);
        CHECK.due("asked again, once", x.chance(1, false), 0);
    }

    private static void ever() {
        CHECK.sentence("Terms 3, promise 43", "EVER: that it was SERVED behind any of 0 to so many of these");
        int[] back = {200000, 240000, 272000, 288000, 299840, 307968};
        int[] none = {0, 0, 0, 0, 0, 64};
        for (int times = 1; times <= 6; times++) {
            CHECK.due("plain 5 4 3 2 1, " + times, Check.with(Check.stack("plain", 5, 4, 3, 2, 1)).chance(times, true),
                back[times - 1]);
            CHECK.due("far away, " + times, Check.with(Check.stack("browned", -3, 1, 5, -2, 4)).chance(times, true),
                none[times - 1]);
            CHECK.due("behind 0, " + times, Check.with(Check.stack("browned", 1, 2)).chance(times, true), 1000000);
        }
        CHECK.due("behind 1 of 2", Check.with(Check.stack("browned", -1)).chance(2, true), 1000000);
        CHECK.due("but not behind 2", Check.with(Check.stack("browned", -1)).chance(2, false), 0);
        CHECK.due("never", Check.with(Check.stack("browned", 2, 1) + "bars 1;").chance(6, true), 0);
    }

    // ---- a slice at rest ----

    private static int rests(HotCakes x, int lose, int turns, int waits, int what) {
        try {
            return x.rests(lose, turns, waits, what);
        } catch (NoSuchElementException none) {
            return -99;
        }
    }

    private static void rests() {
        HotCakes x = new HotCakes();
        CHECK.sentence("promise 44", "NoSuchElementException: others");
        for (int other : new int[] {-1, -2, 10, 11, GREATEST, LEAST}) {
            for (int what = -1; what < 2; what++) {
                CHECK.due("lose " + other, rests(x, other, 5, 1, what), -99);
                CHECK.due("turns " + other, rests(x, 2, other, 1, what), -99);
                CHECK.due("waits " + other, rests(x, 2, 5, other, what), -99);
            }
        }
        for (int what : new int[] {-2, -3, LEAST}) {
            CHECK.due("what " + what, rests(x, 0, 0, 0, what), -99);
        }
        CHECK.sentence("promise 44", "NoSuchElementException: [...] none such");
        for (int what : new int[] {2, 3, 4, GREATEST}) {
            CHECK.due("what " + what + " of two", rests(x, 2, 5, 1, what), -99);
        }
        for (int what : new int[] {4, 5, GREATEST}) {
            CHECK.due("what " + what + " of four", rests(x, 0, 0, 0, what), -99);
        }
        CHECK.sentence("promise 44", "what NONE: how many; i: the i-th as 2 * the first one's choice + the other one's");
        CHECK.due("how many", rests(x, 2, 5, 1, -1), 2);
        CHECK.due("the first one waits, the other one turns", rests(x, 2, 5, 1, 0), 1);
        CHECK.due("the first one turns, the other one waits", rests(x, 2, 5, 1, 1), 2);
        for (int i = 0; i < 4; i++) {
            CHECK.due("all of them, the least first", rests(x, 0, 0, 0, i), i);
        }
        CHECK.sentence("promise 44, with cakes", "what NONE: how many; i: the i-th");
        CHECK.due("the same", rests(three(), 2, 5, 1, -1) * 10 + rests(three(), 2, 5, 1, 1), 22);
        CHECK.sentence("Terms 3, promise 44",
            "each loses so much (0 to 9); one turns: he gets so much (0 to 9), the other one so much (0 to 9)");
        CHECK.due("the least", rests(x, 0, 0, 0, -1), 4);
        CHECK.due("the greatest", rests(x, 9, 9, 9, -1), 2);
        CHECK.due("no loss", rests(x, 0, 9, 9, -1), 2);
        CHECK.due("no loss, none to win by waiting", rests(x, 0, 9, 0, -1), 3);
    }

    /** All there can be told: what each gets by his choice, then whether one would get more by the other choice. */
    private static void allRests() {
        CHECK.sentence("Terms 3, promise 44", "by which neither would get more by the other");
        for (int game = 0; game < 1000; game++) {
            int lose = game / 100;
            int turns = game / 10 % 10;
            int waits = game % 10;
            int[][] first = {{0, waits}, {turns, -lose}};
            int[][] other = {{0, turns}, {waits, -lose}};
            HotCakes x = new HotCakes();
            int found = 0;
            for (int both = 0; both < 4; both++) {
                int a = both / 2;
                int b = both % 2;
                if (first[1 - a][b] <= first[a][b] && other[a][1 - b] <= other[a][b]) {
                    CHECK.due("rests(" + lose + ", " + turns + ", " + waits + ", " + found + ")",
                        rests(x, lose, turns, waits, found), both);
                    found++;
                }
            }
            CHECK.due("rests(" + lose + ", " + turns + ", " + waits + ", -1)", rests(x, lose, turns, waits, -1), found);
            CHECK.due("rests(" + lose + ", " + turns + ", " + waits + ", " + found + ")",
                rests(x, lose, turns, waits, found), -99);
        }
    }

    // ---- mornings ----

    private static void morningsAre(HotCakes x, int seed, int turns, int able, int cost, int served) {
        CHECK.due("mornings(" + seed + ", " + turns + ", 0)", x.mornings(seed, turns, 0), able);
        CHECK.due("mornings(" + seed + ", " + turns + ", 1)", x.mornings(seed, turns, 1), cost);
        CHECK.due("mornings(" + seed + ", " + turns + ", 2)", x.mornings(seed, turns, 2), served);
    }

    private static void morningsRefused() {
        CHECK.sentence("Terms 3, promise 45", "-2: others [...] by a SEED (0 to 9999) [...] of so many (1 to 99) TURNS");
        for (HotCakes x : new HotCakes[] {new HotCakes(), three()}) {
            for (int what = 0; what < 3; what++) {
                for (int seed : new int[] {-1, -2, 10000, 10001, GREATEST, LEAST}) {
                    CHECK.due("seed " + seed, x.mornings(seed, 5, what), -2);
                }
                for (int turns : new int[] {0, -1, 100, 101, GREATEST, LEAST}) {
                    CHECK.due("turns " + turns, x.mornings(1, turns, what), -2);
                }
            }
            for (int what : new int[] {-1, -2, 3, 4, GREATEST, LEAST}) {
                CHECK.due("what " + what, x.mornings(1, 5, what), -2);
            }
        }
        CHECK.sentence("Terms 3, promise 45", "each, if there are CAKES");
        morningsAre(new HotCakes(), 0, 1, 0, 0, 0);
        morningsAre(new HotCakes(), 9999, 99, 0, 0, 0);
        CHECK.sentence("Terms 3, promise 45, of one cake", "each, if there are CAKES");
        morningsAre(Check.with(Check.stack("browned", -1) + "costs 3;"), 1, 99, 99, 297, 1);
        morningsAre(Check.with(Check.stack("plain", 1) + "costs 3;"), 1, 99, 99, 297, 0);
    }

    private static void mornings() {
        String five = Check.stack("browned", -3, 1, 5, -2, 4);
        CHECK.sentence("Terms 3, promise 45",
            "a DRAW below CAKES and 1 is TURNED, if it can be: how many could be; what these cost");
        HotCakes x = Check.with(five + "bars take = 2 and brown = 1; costs take + brown;");
        int[][] want = {{0, 1, 1, 2}, {0, 2, 2, 7}, {0, 50, 43, 191}, {0, 98, 84, 382}, {0, 99, 85, 386}, {1, 1, 1, 6},
            {1, 2, 2, 12},
            {1, 99, 84, 406}, {9999, 1, 0, 0}, {9999, 2, 1, 6}, {9999, 50, 44, 203}, {9999, 99, 91, 428}, {4321, 1, 0, 0},
            {4321, 2, 1, 4}, {4321, 98, 88, 426}, {4321, 99, 88, 426}};
        for (int[] each : want) {
            morningsAre(x, each[0], each[1], each[2], each[3], -1);
        }
        CHECK.sentence("Terms 3, promise 45", "from now on (all is as ahead then)");
        CHECK.due("it is as it was",
            x.count(2) * 10000 + x.count(3) * 1000 + x.count(8) * 100 + x.there(0) * 10 + x.cake(0, 3), 1);
        x.turn(1);
        CHECK.due("from the stack as it is", x.mornings(0, 1, 1), 1);
        CHECK.sentence("Terms 3, promise 45", "behind how many draws it was SERVED for the first time");
        HotCakes y = Check.with(five);
        CHECK.due("behind the last of 99", y.mornings(1597, 99, 2), 99);
        CHECK.due("not behind 98", y.mornings(1597, 98, 2), -1);
        CHECK.due("behind the 8th of 8", y.mornings(7077, 8, 2), 8);
        CHECK.due("not behind 7", y.mornings(7077, 7, 2), -1);
        CHECK.due("the first time, whatever comes", y.mornings(7077, 99, 2), 8);
        CHECK.sentence("promise 45", "(NONE: it was not)");
        CHECK.due("seed 0", y.mornings(0, 99, 2), -1);
        CHECK.due("none can be", Check.with(five + "bars 1;").mornings(1597, 99, 2), -1);
        CHECK.sentence("Terms 3, promise 45", "(0: now)");
        CHECK.due("served", Check.with(Check.stack("browned", 1, 2)).mornings(1, 1, 2), 0);
        CHECK.due("and later on, too", Check.with(Check.stack("plain", 1)).mornings(1, 99, 2), 0);
        CHECK.sentence("Terms 3, promise 45, some of which can't be",
            "behind how many draws it was SERVED for the first time");
        morningsAre(Check.with(Check.stack("plain", 2, 1, 3) + "bars take = 3;"), 1, 6, 4, 4, 2);
    }

    private static void draws() {
        CHECK.sentence("Terms 3",
            "A DRAW below m: g becomes (g * 1103515245 + 12345) modulo 2147483648 (g is the SEED at first); it is"
            + " g / 65536, cut, modulo m");
        // each the seed, then what is drawn by it ahead of the modulo
        int[][] draws = {{0, 0, 21468, 9988, 22117, 3498, 16927}, {1, 16838, 5758, 10113, 17515, 31051, 5627},
            {7, 19564, 9806, 10868, 22674, 32531, 3365}, {9999, 4241, 233, 22049, 17954, 28191, 15727}};
        for (int cakes = 1; cakes <= 5; cakes++) {
            String text = Check.stack("plain", java.util.Arrays.copyOf(new int[] {1, 2, 3, 4, 5}, cakes));
            for (int[] each : draws) {
                int cost = 0;
                for (int i = 1; i < each.length; i++) {
                    cost += each[i] % cakes + 1;
                    CHECK.due("seed " + each[0] + ", " + cakes + " cakes, " + i + " draws",
                        Check.with(text + "costs take;").mornings(each[0], i, 1), cost);
                }
            }
        }
    }
}
