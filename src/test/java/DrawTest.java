/** Promises 37 and 38: hours drawn. The first draws of seed 0: 0 68 88 17 98 27 45 41. */
public final class DrawTest {
    private static final Due DUE = new Due("DrawTest");

    public static void main(String[] args) {
        oneRing();
        twoRings();
        chances();
        noneSuch();
        DUE.finish();
    }

    /** Ahead of the buyer in minutes 1 and 3, if nothing is stuck. */
    private static TurningMarket oneRing(String lines) {
        return Due.loaded("market places 2 minutes 4; ring turns 1 east; stall 0 at 0 sells 0 pieces 20 price 1 fixed;"
            + "buyer at 1 coins 99 habit eager; buyer at 0 coins 0 habit eager; wants 0 0 pieces 2 limit 9;" + lines);
    }

    private static void oneRing() {
        TurningMarket x = oneRing("");
        DUE.due("drawn(0, 0)", x.drawn(0, 0), 2);
        DUE.due("drawn(0, 10): stuck in 0", x.drawn(0, 10), 1);
        DUE.due("drawn(0, 17): stuck in 0", x.drawn(0, 17), 1);
        DUE.due("drawn(0, 18): stuck in 0 and 3", x.drawn(0, 18), 2);
        DUE.due("drawn(0, 100)", x.drawn(0, 100), 0);
        DUE.due("drawn(2000000000, 20)", x.drawn(2000000000, 20), 2);
        DUE.due("drawn(2000000000, 22)", x.drawn(2000000000, 22), 0);
        DUE.due("the hour is as told", x.sale(1, 0), 3);
        DUE.due("what is told to be stuck", x.count(7), 0);
        TurningMarket stuck = oneRing("stuck 0 from 1 to 1;");
        DUE.due("told: ahead in 2", stuck.all(0), 1);
        DUE.due("besides what is told: ahead in 3", stuck.drawn(0, 10), 1);
        DUE.due("besides what is told: stuck in 0, 1 and 3", stuck.drawn(0, 18), 0);
        DUE.due("without rings", Due.loaded(Markets.BARE).drawn(7, 50), 0);
    }

    private static void twoRings() {
        // draws for ring 1: 68 17 27 41; for ring 0, which never turns: 0 88 98 45
        TurningMarket x = Due.loaded("market places 2 minutes 4; ring turns 0 east; ring turns 1 east;"
            + "stall 1 at 0 sells 0 pieces 20 price 1 fixed; buyer at 1 coins 99 habit eager; wants 0 0 pieces 9 limit 9;");
        DUE.due("drawn(0, 10)", x.drawn(0, 10), 2);
        DUE.due("drawn(0, 30)", x.drawn(0, 30), 1);
        DUE.due("drawn(0, 42)", x.drawn(0, 42), 0);
    }

    private static void chances() {
        TurningMarket x = oneRing("");
        // odds 20: he has both pieces of seeds 0, 1 and 3, none of seed 2
        DUE.due("chance(0, 1, 20, 0)", x.chance(0, 1, 20, 0), 1);
        DUE.due("chance(0, 2, 20, 0)", x.chance(0, 2, 20, 0), 2);
        DUE.due("chance(0, 3, 20, 0)", x.chance(0, 3, 20, 0), 2);
        DUE.due("chance(0, 4, 20, 0)", x.chance(0, 4, 20, 0), 3);
        DUE.due("chance(2, 1, 20, 0)", x.chance(2, 1, 20, 0), 0);
        DUE.due("chance(0, 20, 0, 0)", x.chance(0, 20, 0, 0), 20);
        DUE.due("chance(0, 20, 100, 0)", x.chance(0, 20, 100, 0), 0);
        DUE.due("chance(0, 20, 100, 1) of one who wants nothing", x.chance(0, 20, 100, 1), 20);
        DUE.due("chance(2000000000, 20, 0, 0)", x.chance(2000000000, 20, 0, 0), 20);
        DUE.due("the hour is as told", x.all(0), 2);
    }

    private static void noneSuch() {
        TurningMarket x = oneRing("");
        int[] wild = {-1, 101, Integer.MIN_VALUE, Integer.MAX_VALUE};
        for (int n : wild) {
            DUE.due("drawn(0, " + n + ")", x.drawn(0, n), -2);
            DUE.due("chance(0, " + n + ", 0, 0)", x.chance(0, n, 0, 0), -2);
            DUE.due("chance(0, 1, " + n + ", 0)", x.chance(0, 1, n, 0), -2);
            DUE.due("chance(0, 1, 0, " + n + ")", x.chance(0, 1, 0, n), -2);
        }
        int[] seeds = {-1, 2000000001, Integer.MIN_VALUE, Integer.MAX_VALUE};
        for (int seed : seeds) {
            DUE.due("drawn(" + seed + ", 0)", x.drawn(seed, 0), -2);
            DUE.due("chance(" + seed + ", 1, 0, 0)", x.chance(seed, 1, 0, 0), -2);
        }
        DUE.due("chance(0, 0, 0, 0)", x.chance(0, 0, 0, 0), -2);
        DUE.due("chance(0, 21, 0, 0)", x.chance(0, 21, 0, 0), -2);
        DUE.due("chance(0, 1, 0, 2)", x.chance(0, 1, 0, 2), -2);
        TurningMarket none = new TurningMarket();
        DUE.due("no market: drawn", none.drawn(0, 0), -2);
        DUE.due("no market: chance", none.chance(0, 1, 0, 0), -2);
    }
}
