import java.util.NoSuchElementException;
import java.util.Random;

/** Random runs of calls, valid and not, on a HotCakes and on the slow model of the document. */
public final class RandomRunsTest {
    private static final int RUNS = 900;
    private static final String[] KINDS = {"plain", "browned", "heavy", "glazed"};
    private static final String[] NAMES = {"a", "bb", "take", "brown", "pancakes", "x", "left"};
    private static final String[] ODD = {"cake", "turn", "wide", "not", "(", ")", ";", "=", "<", "*", "+", "-", "7",
        "0", "31", "12345", "fish", "toolongaword", "!", "A", "and", "or", "bars", "costs", "up", "down", "", "plain"};

    private final Random random;
    private final HotCakes fast = new HotCakes();
    private final Slow slow = new Slow();
    private int calls;
    private final StringBuilder told = new StringBuilder();

    private RandomRunsTest(long seed) {
        random = new Random(seed);
    }

    public static void main(String[] args) {
        for (int seed = 1; seed <= RUNS; seed++) {
            String wrong = new RandomRunsTest(seed).run(seed);
            if (wrong != null) {
                System.out.println("run " + seed + ": " + wrong);
                System.exit(1);
            }
        }
        System.out.println(RUNS + " random runs answered as the slow model does");
    }

    private String run(int seed) {
        int limit = 20 + random.nextInt(160);
        if (random.nextInt(10) > 0) {
            String wrong = read(0, seed % 10 == 0 ? tableText() : griddleText(seed % 6));
            if (wrong != null) {
                return wrong;
            }
        }
        while (calls < limit) {
            String wrong = step();
            if (wrong != null) {
                return wrong + " behind" + told;
            }
        }
        return null;
    }

    private String step() {
        int choice = random.nextInt(100);
        if (choice < 2) {
            return read(0, spoilt(griddleText(random.nextInt(6)), 2));
        }
        if (choice < 6) {
            return read(1, spoilt(planText(), 4));
        }
        if (choice < 10) {
            return read(2, spoilt(wishText(), 4));
        }
        if (choice < 11) {
            return same("feed", feedOf(fast, 7L), slow.feed(random(7), random(8), random(9)));
        }
        return choice < 40 ? moved() : asked(random.nextInt(36));
    }

    private static long random(int k) {
        return 0x6361_6b65_2000_ff0aL * k;
    }

    private static int feedOf(HotCakes cakes, long k) {
        return cakes.feed(random((int) k), random((int) k + 1), random((int) k + 2));
    }

    // ---- texts ----

    private String griddleText(int cakes) {
        StringBuilder text = new StringBuilder();
        int law = random.nextInt(3);
        int shift = random.nextInt(NAMES.length);
        int kinds = random.nextInt(3);
        if (law == 2) {
            text.append("costs ").append(law(0)).append(" ; ");
        }
        int[] widths = random.ints(1, 31).distinct().limit(cakes).toArray();
        for (int i = 0; i < cakes; i++) {
            String kind = KINDS[kinds == 0 ? 1 : random.nextInt(kinds == 1 ? 3 : 4)];
            text.append("cake ").append(NAMES[(i + shift) % NAMES.length]).append(' ').append(kind).append(" wide ")
                .append(widths[i]).append(random.nextBoolean() ? " up ; " : " down ; ");
        }
        if (law > 0 && random.nextBoolean()) {
            text.append("bars ").append(mildLaw()).append(" ; ");
        }
        return text.toString();
    }

    /** Widths by which weight tells just which cakes are turned, and a law that bars some of these as they lie. */
    private String tableText() {
        int cakes = 4 + random.nextInt(2);
        int plain = random.nextInt(2 * cakes);
        int shift = random.nextInt(cakes);
        int often = 3 + random.nextInt(3);
        StringBuilder text = new StringBuilder();
        for (int i = 0; i < cakes; i++) {
            text.append("cake ").append(NAMES[i]).append(i == plain ? " plain" : " browned").append(" wide ")
                .append(1 << (i + shift) % cakes).append(random.nextBoolean() ? " up ; " : " down ; ");
        }
        text.append("bars 0 ");
        for (int brown = 0; brown <= cakes; brown++) {
            StringBuilder sets = new StringBuilder();
            for (int set = 1; set < 1 << cakes; set++) {
                boolean barred = Integer.bitCount(set) >= brown && random.nextInt(often) == 0;
                sets.append(barred ? (sets.length() > 0 ? "or " : "") + "weight=" + set : "");
            }
            if (sets.length() > 0 && text.length() + sets.length() < 900) {
                text.append("or(brown=").append(brown).append(" and(").append(sets).append(")) ");
            }
        }
        return text.append(random.nextBoolean() ? "; costs take + brown * 2 ; " : "; ").toString();
    }

    /** A law that does not bar all. */
    private String mildLaw() {
        String[] mild = {"take = 2 and brown = 1", "weight < 9", "take * take + brown = 5", "not ( brown < 2 )",
            "left = 0 and not brown", "weight - 40 < brown and 1 < take", "take = 1", "left < 2 and take < 4", law(0)};
        return mild[random.nextInt(mild.length)];
    }

    private String law(int depth) {
        String[] leaves = {"take", "left", "weight", "brown", "2", "1", "9999", "0", "17"};
        String leaf = leaves[random.nextInt(leaves.length)];
        String[] joints = {" and ", " or ", " < ", " = ", " + ", " - ", " * ", "*", "-"};
        switch (depth > 5 ? 0 : random.nextInt(5)) {
            case 0: return leaf;
            case 1: return "not " + law(depth + 1);
            case 2: return "(" + law(depth + 1) + ")";
            case 3: return leaf + joints[random.nextInt(joints.length)] + law(depth);
            default: return "(" + law(depth + 1) + joints[random.nextInt(joints.length)] + law(depth + 1) + ") + " + leaf;
        }
    }

    private String planText() {
        StringBuilder text = new StringBuilder();
        int lines = random.nextInt(12) == 0 ? 39 + random.nextInt(3) : random.nextInt(8);
        for (int i = 0; i < lines; i++) {
            text.append("turn ").append(1 + random.nextInt(Math.max(1, fast.count(0)))).append(" ; ");
        }
        return text.toString();
    }

    private String wishText() {
        StringBuilder text = new StringBuilder();
        int shift = random.nextInt(NAMES.length);
        for (int i = 0; i < fast.count(0); i++) {
            text.append(NAMES[(i + shift) % NAMES.length]).append(random.nextBoolean() ? " up " : " down ");
        }
        return text.toString();
    }

    /** A token or two of it other ones, gone or twice, once in so many times. */
    private String spoilt(String text, int often) {
        if (random.nextInt(often) != 0) {
            return text;
        }
        String[] tokens = text.split(" ");
        for (int times = random.nextInt(2); times >= 0; times--) {
            int i = random.nextInt(tokens.length);
            switch (random.nextInt(4)) {
                case 0: tokens[i] = ""; break;
                case 1: tokens[i] = tokens[i] + " " + tokens[i]; break;
                case 2: tokens[i] = tokens[random.nextInt(tokens.length)]; break;
                default: tokens[i] = ODD[random.nextInt(ODD.length)];
            }
        }
        String joined = String.join(random.nextInt(4) == 0 ? "\n " : " ", tokens);
        return random.nextInt(4) == 0 ? joined.substring(0, random.nextInt(joined.length() + 1)) : joined;
    }

    private String read(int how, String text) {
        for (int i = 0; i < text.length(); i += 24) {
            long[] packed = new long[3];
            for (int j = 0; j < 24; j++) {
                long sign = i + j < text.length() ? text.charAt(i + j) : 0;
                packed[j / 8] |= sign << 8 * (7 - j % 8);
            }
            String wrong = same("feed", fast.feed(packed[0], packed[1], packed[2]), slow.feed(packed[0], packed[1], packed[2]));
            if (wrong != null) {
                return wrong;
            }
        }
        told.append("\n  read ").append(how).append(" of ").append(text);
        switch (how) {
            case 0: return same("griddle", fast.griddle(), slow.griddle());
            case 1: return same("plan", fast.plan(), slow.plan());
            default: return same("wish", fast.wish(), slow.wish());
        }
    }

    // ---- calls ----

    private String same(String call, long got, long want) {
        calls++;
        return got == want ? null : call + " answered " + got + ", due is " + want;
    }

    private String same(String call, boolean got, boolean want) {
        return same(call, got ? 1 : 0, want ? 1 : 0);
    }

    private String moved() {
        int many = random.nextInt(Math.max(1, fast.count(0)) + (random.nextInt(8) == 0 ? 3 : 0)) + (random.nextInt(9) == 0 ? -1 : 1);
        int place = random.nextInt(7) - (random.nextInt(5) == 0 ? 1 : 0);
        int cake = random.nextInt(6) - (random.nextInt(5) == 0 ? 1 : 0);
        boolean so = random.nextBoolean();
        int choice = random.nextInt(12);
        if (choice < 6) {
            return same("turn " + many, fast.turn(many), slow.turn(many));
        }
        if (choice == 6) {
            return same("undo", fast.undo(), slow.undo());
        }
        if (choice == 7) {
            return same("see", fast.see(place, cake, so), slow.see(place, cake, so));
        }
        if (choice == 8) {
            return same("lies", fast.lies(place, so), slow.lies(place, so));
        }
        if (choice == 9) {
            return same("mark", fast.mark(place, so), slow.mark(place, so));
        }
        if (choice == 10) {
            int i = fast.row(0);
            return same("turn of row", fast.turn(i), slow.turn(i));
        }
        int i = fast.his();
        return same("turn of his", fast.turn(i), slow.turn(i));
    }

    private String asked(int choice) {
        int near = random.nextInt(9) - 1;
        int cake = random.nextInt(7) - 1;
        boolean so = random.nextBoolean();
        int what = random.nextInt(5) - 1;
        int sixty = random.nextInt(3) == 0 ? random.nextInt(64) - 1 : near;
        switch (choice) {
            case 0: return same("cake " + cake + " " + what, fast.cake(cake, what), slow.cake(cake, what));
            case 1: return same("there " + near, fast.there(near), slow.there(near));
            case 2: return same("can " + near, fast.can(near), slow.can(near));
            case 3: return same("cost " + near, fast.cost(near), slow.cost(near));
            case 4: return same("served", fast.served(), slow.served());
            case 5: return same("judged " + what, fast.judged(what), slow.judged(what));
            case 6: return same("least", fast.least(), slow.least());
            case 7: return same("row " + near, fast.row(near), slow.row(near));
            case 8: return same("ways", fast.ways(), slow.ways());
            case 9: return same("cheap", fast.cheap(), slow.cheap());
            case 10: return same("bill " + near, fast.bill(near), slow.bill(near));
            case 11: return same("without " + near, fast.without(near), slow.without(near));
            case 12: return same("needed", fast.needed(), slow.needed());
            case 13: return same("far", fast.far(), slow.far());
            case 14: return same("toward", fast.toward(), slow.toward());
            case 15: return same("never", fast.never(), slow.never());
            case 16: return same("hard " + what, fast.hard(what), slow.hard(what));
            case 17: return same("spread " + sixty, fast.spread(sixty), slow.spread(sixty));
            case 18: return same("dear", fast.dear(), slow.dear());
            case 19: return same("rim", fast.rim(), slow.rim());
            case 20: return same("nth", fast.nth(), slow.nth());
            case 21: return same("ring", fast.ring(near, cake), slow.ring(near, cake));
            case 22: return same("pairs", fast.pairs(), slow.pairs());
            case 23: return same("reached " + sixty, fast.reached(sixty), slow.reached(sixty));
            case 24: return same("gaps", fast.gaps(), slow.gaps());
            case 25: return same("sharp", fast.sharp(), slow.sharp());
            case 26: return same("again", fast.again(), slow.again());
            case 27: return same("spare", fast.spare(), slow.spare());
            case 28: return same("ends", fast.ends(), slow.ends());
            case 29: return same("wins " + what, fast.wins(what), slow.wins(what));
            case 30: return same("his", fast.his(), slow.his());
            case 31: return same("fit", fast.fit(), slow.fit());
            case 32: return same("look", fast.look(), slow.look());
            case 33: return same("chance " + near, fast.chance(near, so), slow.chance(near, so));
            case 34: return drawn();
            default: return counted();
        }
    }

    private String drawn() {
        int seed = random.nextInt(20) == 0 ? 10000 - random.nextInt(2) : random.nextInt(10001) - 1;
        int turns = random.nextInt(102) - 1;
        int what = random.nextInt(5) - 1;
        String wrong = same("mornings", fast.mornings(seed, turns, what), slow.mornings(seed, turns, what));
        if (wrong != null) {
            return wrong;
        }
        int lose = random.nextInt(12) - 1;
        int both = random.nextInt(12) - 1;
        int waits = random.nextInt(12) - 1;
        int which = random.nextInt(6) - 2;
        int got = -9;
        int want = -9;
        try {
            got = fast.rests(lose, both, waits, which);
        } catch (NoSuchElementException none) {
            got = -8;
        }
        try {
            want = slow.rests(lose, both, waits, which);
        } catch (NoSuchElementException none) {
            want = -8;
        }
        return same("rests " + lose + " " + both + " " + waits + " " + which, got, want);
    }

    private String counted() {
        for (int what = -1; what < 11; what++) {
            String wrong = same("count " + what, fast.count(what), slow.count(what));
            if (wrong != null) {
                return wrong;
            }
        }
        return null;
    }
}
