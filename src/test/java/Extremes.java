/**
 * Griddles of five cakes, 1, 2, 4, 8, 16 wide, so that weight tells which ones are turned: found by a search for laws
 * by which it is far, or by which there are very many ways. How far, and how many, was worked out by another program.
 */
final class Extremes {
    private Extremes() {
    }

    /** It is up to 61 turns till it is served, and up to 64 from the farthest stack to all that it comes to. */
    private static final String FAR_LAW = "bars 0or(brown=0and(weight=1or weight=2or weight=8or weight=12or weight=14"
        + "or weight=16or weight=18))or(brown=1and(weight=1or weight=3))or(brown=2and(weight=3or weight=21or weight=22"
        + "or weight=31))or(brown=3and(weight=7or weight=21or weight=23or weight=31))or(brown=4and(weight=23"
        + "or weight=31))or(brown=5and(weight=31));";

    private static final String MANY_LAW = "bars 0or(brown=0and(weight=2or weight=7or weight=8or weight=10or weight=14"
        + "or weight=15or weight=19or weight=22or weight=24or weight=27or weight=28or weight=30))or(brown=1and(weight=5"
        + "or weight=6or weight=7or weight=8or weight=13or weight=14or weight=15or weight=17or weight=19or weight=21"
        + "or weight=22or weight=24or weight=27or weight=28or weight=29or weight=30))or(brown=2and(weight=7or weight=13"
        + "or weight=15or weight=19or weight=21or weight=22or weight=25or weight=27or weight=29or weight=30))or(brown=3"
        + "and(weight=7or weight=13or weight=15or weight=27or weight=29or weight=30))or(brown=4and(weight=15));";

    /** The farthest stack: 61 turns, 16 ways. */
    static HotCakes far61(String costs) {
        return Check.with(Check.stack("browned", -1, 4, -16, -2, 8) + FAR_LAW + costs);
    }

    /** The served one, on the same griddle. */
    static HotCakes served61() {
        return Check.with(Check.stack("browned", 1, 2, 4, 8, 16) + FAR_LAW);
    }

    /** 154 turns, 31,627,051,008 ways. */
    static HotCakes ways31627051008() {
        return Check.with("cake a browned wide 1down;cake b browned wide 4up;cake c browned wide 8up;"
            + "cake d plain wide 16down;cake e browned wide 2up;" + MANY_LAW);
    }

    /** 143 turns, 1,908,178,944 ways. */
    static HotCakes ways1908178944() {
        return Check.with("cake a browned wide 1down;cake b browned wide 4up;cake c browned wide 2down;"
            + "cake d plain wide 16down;cake e browned wide 8up;" + MANY_LAW);
    }
}
