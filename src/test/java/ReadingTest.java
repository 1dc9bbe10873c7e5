import java.util.function.ToIntBiFunction;

/** Promises 1 to 5: a new object, the tape, and what is read from it. */
public final class ReadingTest {
    private static final Check CHECK = new Check();
    private static final String TWO = "cake pp plain wide 7 up ; cake qq glazed wide 4 down ; ";

    public static void main(String[] args) {
        anew();
        feeding();
        griddleFaults();
        lawFaults();
        griddleAnew();
        laws();
        plans();
        wishes();
        CHECK.end();
    }

    private static void anew() {
        CHECK.promise(1, "a new object");
        HotCakes x = new HotCakes();
        CHECK.due("count(1)", x.count(1), 1);
        for (int what = 0; what < 10; what++) {
            CHECK.due("count(" + what + ")", x.count(what), what == 1 ? 1 : 0);
        }
        CHECK.due("served()", x.served(), true);
        CHECK.due("far()", x.far(), -1);
        CHECK.due("undo()", x.undo(), false);
        for (int mark = 0; mark < 4; mark++) {
            CHECK.due("mark(.., true)", x.mark(mark, true), false);
        }
        CHECK.due("there(0)", x.there(0), -1);
        CHECK.due("two objects do not share a tape", Check.feed(new HotCakes(), "abc"), 3);
        CHECK.due("nor is one there behind it", new HotCakes().count(9), 0);
        CHECK.due("plan() of nothing", x.plan(), 0);
        CHECK.due("griddle() of nothing", x.griddle(), 0);
        CHECK.due("NONE", HotCakes.NONE, -1);
    }

    private static void feeding() {
        CHECK.promise(2, "feed");
        HotCakes x = new HotCakes();
        CHECK.due("nothing", x.feed(0, 0, 0), 0);
        CHECK.due("the highest byte first", x.feed(0x7475726e20312000L, 0, 0), 7);
        CHECK.due("read as turn 1", Check.plan(x, ""), 4 + 16 * 5);
        CHECK.due("a, then b, then c", x.feed(0x7400000000000000L, 0x0000750000000000L, 0x726e), 4);
        CHECK.due("read as turn", x.plan(), 1 + 16 * 4);
        CHECK.due("9, 11, 31, 127, 128, 255 are left out", x.feed(0x090b1f7f80ff0000L, 0, 0), 0);
        CHECK.due("10, 32, 126 are not", x.feed(0x0a207e0000000000L, 0, 0), 3);
        CHECK.due("10 and 32 are blanks, 126 is none", x.plan(), 1 + 16 * 2);
        CHECK.due("all bytes of three", x.feed(-1L >>> 1 & 0x2121212121212121L, 0x2121212121212121L, 0x2121212121212121L), 24);
        x.griddle();
        CHECK.due("what reads it takes it", x.count(9), 0);
        for (int i = 0; i < 41; i++) {
            Check.feed(x, "                        ");
        }
        CHECK.due("984", x.count(9), 984);
        CHECK.due("beyond 1,000", Check.feed(x, "               !!!!!!!!!"), 1000);
        CHECK.due("and again", Check.feed(x, "!"), 1000);
        CHECK.due("the last one kept is the 1,000th", x.plan(), 1 + 16 * 999);
        CHECK.due("a row of 1,000 blanks", Check.plan(x, " ".repeat(1000)), 0);
    }

    private static void fault(ToIntBiFunction<HotCakes, String> how, HotCakes x, String text, int kind, int place) {
        String before = Check.state(x);
        CHECK.due("'" + text + "'", how.applyAsInt(x, text), kind + 16 * place);
        CHECK.due("all stays behind '" + text + "'", Check.state(x).equals(before), true);
        CHECK.due("the tape is taken by '" + text + "'", x.count(9), 0);
    }

    private static HotCakes busy() {
        HotCakes x = Check.with(TWO);
        Check.plan(x, "turn 1; turn 1;");
        Check.wish(x, "qq up pp down");
        x.turn(1);
        x.see(0, 1, true);
        x.mark(2, false);
        return x;
    }

    private static void griddleFaults() {
        CHECK.promise(3, "griddle, faults");
        HotCakes x = busy();
        ToIntBiFunction<HotCakes, String> how = Check::griddle;
        fault(how, x, "griddle", 1, 0);
        fault(how, x, " ;", 1, 1);
        fault(how, x, "Cake", 1, 0);
        fault(how, x, "cake", 1, 4);
        fault(how, x, "cake  ", 1, 6);
        fault(how, x, "cake 7", 1, 5);
        fault(how, x, "cake toolongaw plain", 1, 5);
        fault(how, x, "cake\ntoolonga plain 1", 1, 20);
        for (String word : "cake wide up down bars costs turn plain browned heavy glazed not and or".split(" ")) {
            fault(how, x, "cake " + word + " plain", 1, 5);
        }
        fault(how, x, "cake take brown", 1, 10);
        fault(how, x, "cake pp plain 3", 1, 14);
        fault(how, x, "cake pp plain wide up", 1, 19);
        fault(how, x, "cake pp plain wide 12345", 1, 19);
        fault(how, x, "cake pp plain wide 31", 4, 19);
        fault(how, x, "cake pp plain wide 0000;", 4, 19);
        fault(how, x, "cake pp plain wide 30", 1, 21);
        fault(how, x, "cake pp plain wide 3 left", 1, 21);
        fault(how, x, "cake pp plain wide 3up down", 1, 23);
        fault(how, x, "cake pp plain wide 3 up", 1, 23);
        fault(how, x, TWO + "cake pp", 3, 60);
        fault(how, x, TWO + "cake rr plain wide 4", 3, 74);
        fault(how, x, TWO + "cake rr plain wide 0007;", 3, 74);
        fault(how, x, TWO + "?", 1, 55);
        fault(how, x, "bars 1;bars", 3, 7);
        fault(how, x, "costs 1;bars 1;costs", 3, 15);
        String five = Check.stack("heavy", 1, 2, 3, 4, 5);
        fault(how, x, five + "bars 0; cake f", 5, five.length() + 8);
        fault(how, x, five + "cake cake", 5, five.length());
        CHECK.due("five are none too many", Check.griddle(new HotCakes(), five), 0);
    }

    private static void lawFaults() {
        CHECK.promise(3, "griddle, faults of laws");
        HotCakes x = busy();
        ToIntBiFunction<HotCakes, String> how = Check::griddle;
        fault(how, x, "bars", 1, 4);
        fault(how, x, "bars ;", 1, 5);
        fault(how, x, "bars pp;", 1, 5);
        fault(how, x, "bars turn;", 1, 5);
        fault(how, x, "bars -1;", 1, 5);
        fault(how, x, "bars take left", 1, 10);
        fault(how, x, "bars 1 + ;", 1, 9);
        fault(how, x, "bars 1 * * 1", 1, 9);
        fault(how, x, "bars 1 < 2 < 3", 1, 11);
        fault(how, x, "bars 1 = 2 = 3", 1, 11);
        fault(how, x, "bars 1 < 2 = 3", 1, 11);
        fault(how, x, "bars 1 and", 1, 10);
        fault(how, x, "bars 1 and or", 1, 11);
        fault(how, x, "bars 1 not 2", 1, 7);
        fault(how, x, "bars (1;", 1, 7);
        fault(how, x, "bars 1);", 1, 6);
        fault(how, x, "bars ();", 1, 6);
        fault(how, x, "bars 1 costs", 1, 7);
        fault(how, x, "costs 12345", 1, 6);
        fault(how, x, "costs not not not not not 1", 5, 26);
        fault(how, x, "costs not not not not not not 1", 5, 26);
        fault(how, x, "costs (((((1)))))", 5, 11);
        fault(how, x, "costs (((((((", 5, 11);
        fault(how, x, "costs (not(not(take", 5, 15);
        fault(how, x, "costs not(not(not )", 1, 18);
        fault(how, x, "costs (((((;", 1, 11);
        fault(how, x, "costs (((((up", 1, 11);
        fault(how, x, "costs (((((", 1, 11);
        fault(how, x, "costs 1+(((((1)))))", 5, 13);
        HotCakes y = new HotCakes();
        CHECK.due("four are none too many", Check.griddle(y, "bars not not not not 1; costs ((((1))))+(not(not 1));"), 0);
        CHECK.due("nor is a longest text", Check.griddle(y, "bars 0" + "+take*brown".repeat(88) + ";"), 0);
    }

    private static void griddleAnew() {
        CHECK.promise(3, "griddle, behind which all is anew");
        HotCakes x = busy();
        CHECK.due("marked", x.mark(2, true), true);
        x.turn(1);
        CHECK.due("an empty one", x.griddle(), 0);
        CHECK.due("no cakes", x.count(0), 0);
        x = busy();
        CHECK.due("another one", Check.griddle(x, "cake a browned wide 30 up;cake b plain wide 1 up;"), 0);
        int[] counts = {2, 4, 0, 0, 3, 0, 0, 0, 0, 0};
        for (int what = 0; what < 10; what++) {
            CHECK.due("count(" + what + ")", x.count(what), counts[what]);
        }
        CHECK.due("undo()", x.undo(), false);
        CHECK.due("mark(2, true)", x.mark(2, true), false);
        CHECK.due("far()", x.far(), -1);
        CHECK.due("cake 0 is on top", x.there(0), 0);
        CHECK.due("cake 1 is below", x.there(1), 1);
        CHECK.due("as told: up", x.cake(0, 3), 1);
        CHECK.due("none up without a side", x.cake(1, 3), 0);
        CHECK.due("blanks nowhere but between words", Check.griddle(x, "cake a plain wide 3up;bars 1;costs(2);"), 0);
        CHECK.due("blanks of both signs", Check.griddle(x, "\n cake\na  plain wide 3\n\nup ;bars not(0);"), 0);
        CHECK.due("barred", x.can(1), false);
        CHECK.due("without bars it is not", Check.griddle(x, "cake a plain wide 3 up;") == 0 && x.can(1), true);
        CHECK.due("laws ahead of cakes", Check.griddle(x, "costs weight;bars 0;cake a plain wide 3 up;"), 0);
        CHECK.due("costs", x.cost(1), 3);
        CHECK.due("names of the same letters are two", Check.griddle(x,
            "cake ab plain wide 3 up; cake ba heavy wide 1 up; cake pu plain wide 2 up; cake aaaaaaaa plain wide 4 up;"
            + "cake aaaaaaab plain wide 5 up;"), 0);
        CHECK.due("and each is known", Check.wish(x, "aaaaaaab up aaaaaaaa up pu up ba up ab up"), 0);
        CHECK.due("facts are names", Check.griddle(x, "cake take plain wide 3 up; cake left heavy wide 1 up; bars take;"), 0);
    }

    private static void law(String law, int take, int want) {
        HotCakes x = Check.with("cake a browned wide 3 up; cake b heavy wide 10 up; cake c glazed wide 2 up; costs " + law + ";");
        CHECK.due("cost(" + take + ") by " + law, x.cost(take), want);
    }

    private static void laws() {
        CHECK.promise(3, "griddle, what laws say");
        law("take", 2, 2);
        law("left", 1, 2);
        law("weight", 1, 3);
        law("weight - 20", 2, 3);
        law("weight - 20", 3, 5);
        law("brown", 2, 1);
        law("brown", 3, 2);
        law("2 + 3 * 2", 1, 8);
        law("(2 + 3) * 1", 1, 5);
        law("9 - 3 - 2", 1, 4);
        law("9 - (3 - 2)", 1, 8);
        law("1 < 2 + 4", 1, 1);
        law("(1 < 2) + 4", 1, 5);
        law("(2 < 2) + 4", 1, 4);
        law("(2 = 2) + 4", 1, 5);
        law("(2 = 1 + 1) + 4", 1, 5);
        law("(1 or 0 and 0) + 4", 1, 4);
        law("(0 and 0 or 1) + 4", 1, 5);
        law("(7 and 9) + 4", 1, 5);
        law("(0 or 9) + 4", 1, 5);
        law("(0 or 0) + 4", 1, 4);
        law("(7 and 0) + 4", 1, 4);
        law("not 0 + 4", 1, 5);
        law("not 7 + 4", 1, 4);
        law("not not 7 + 4", 1, 5);
        law("not (0 + 4) + 2", 1, 2);
        law("not 0 * 3", 1, 3);
        law("(not 1 < 1) + 4", 1, 5);
        law("0 - 5", 1, 1);
        law("0", 1, 1);
        law("9999", 1, 9);
        law("10", 1, 9);
        law("0010 - 1", 1, 9);
        law("8*8*8*8*8*8*8*8*8*8*2 < 0", 1, 1);
        law("(8*8*8*8*8*8*8*8*8*8*2 < 0) + 4", 1, 5);
        law("8*8*8*8*8*8*8*8*8*8*4 + 6", 1, 6);
    }

    private static void plans() {
        CHECK.promise(4, "plan");
        HotCakes x = busy();
        ToIntBiFunction<HotCakes, String> how = Check::plan;
        fault(how, x, "turn 3;", 4, 5);
        fault(how, x, "turn 0;", 4, 5);
        fault(how, x, "turn 10000", 1, 5);
        fault(how, x, "turn 9999", 4, 5);
        fault(how, x, "turn 2", 1, 6);
        fault(how, x, "turn 2 ", 1, 7);
        fault(how, x, "turn;", 1, 4);
        fault(how, x, "turn 2; 2", 1, 8);
        fault(how, x, "turn 2, turn", 1, 6);
        fault(how, x, "turn pp;", 1, 5);
        fault(how, x, "cake", 1, 0);
        String forty = "turn2;".repeat(40);
        fault(how, x, forty + " turn", 5, 241);
        fault(how, x, forty + "cake", 1, 240);
        fault(how, x, forty + ";", 1, 240);
        CHECK.due("two lines are there yet", x.count(5), 2);
        CHECK.due("40 lines", Check.plan(x, forty), 0);
        CHECK.due("40 lines are there", x.count(5), 40);
        CHECK.due("another one instead", Check.plan(x, "turn 1 ;turn 0002\n;"), 0);
        CHECK.due("two lines", x.count(5), 2);
        CHECK.due("in their order", x.judged(0), 1);
        CHECK.due("no lines", Check.plan(x, " "), 0);
        CHECK.due("none are there", x.count(5), 0);
        CHECK.due("without cakes there is no turn", Check.plan(new HotCakes(), "turn 1;"), 4 + 16 * 5);
    }

    private static void wishes() {
        CHECK.promise(5, "wish");
        HotCakes x = busy();
        ToIntBiFunction<HotCakes, String> how = Check::wish;
        fault(how, x, "", 1, 0);
        fault(how, x, "  ", 1, 2);
        fault(how, x, "rr", 2, 0);
        fault(how, x, "take up", 2, 0);
        fault(how, x, "cake up", 1, 0);
        fault(how, x, "7", 1, 0);
        fault(how, x, "pp", 1, 2);
        fault(how, x, "pp left", 1, 3);
        fault(how, x, "pp up", 1, 5);
        fault(how, x, "pp up pp up", 3, 6);
        fault(how, x, "pp up rr up", 2, 6);
        fault(how, x, "pp up up", 1, 6);
        fault(how, x, "pp up; qq up", 1, 5);
        fault(how, x, "pp up qq up pp", 1, 12);
        fault(how, x, "pp up qq up rr", 1, 12);
        fault(how, x, "pp up qq up toolongaword", 1, 12);
        CHECK.due("all of them", Check.wish(x, "qq up\npp down"), 0);
        CHECK.due("count(6)", x.count(6), 2);
        HotCakes y = new HotCakes();
        CHECK.due("without cakes a name can't stand there", Check.wish(y, "pp"), 1);
        CHECK.due("no wish yet", y.far(), -1);
        CHECK.due("an empty one", Check.wish(y, " \n"), 0);
        CHECK.due("count(6)", y.count(6), 0);
        CHECK.due("far()", y.far(), 0);
    }
}
