import java.math.BigInteger;

/** The sentences of term V and of promises 37 and 38: HOURS drawn. */
final class DrawSentences extends SentenceGroup {
    private static final String TERM = "Term V";
    private static final int[] SEEDS = {0, 1, 2, 3, 7, 12345, 65535, 65536, 1000000, 1103515245, 1999999999, 2000000000};

    DrawSentences(Sentences sentences) {
        super(sentences);
    }

    @Override
    void all() {
        steps();
        draws();
        minuteByMinute();
        belowOdds();
        drawn();
        chance();
    }

    /** The draws behind a seed, by numbers without bounds. */
    private static int[] draws(long seed, int n) {
        int[] found = new int[n];
        BigInteger x = BigInteger.valueOf(seed);
        for (int i = 0; i < n; i++) {
            x = x.multiply(BigInteger.valueOf(1103515245)).add(BigInteger.valueOf(12345)).mod(BigInteger.valueOf(2147483648L));
            found[i] = x.divide(BigInteger.valueOf(65536)).mod(BigInteger.valueOf(100)).intValue();
        }
        return found;
    }

    /** Two minutes: the stall of a ring is ahead of the buyer in the second one, if its ring is stuck in neither. */
    private static TurningMarket two(String rings, int ring, String more) {
        return Due.loaded("market places 2 minutes 2;" + rings + "stall " + ring + " at 0 sells 0 pieces 1 price 0 fixed;"
            + "buyer at 1 coins 0 habit eager; wants 0 0 pieces 1 limit 0;" + more);
    }

    /** It is stuck from odds on that are above the least of its two draws. */
    private void stuckAbove(String what, TurningMarket x, int seed, int draw) {
        s.due(what + ": drawn(" + seed + ", " + draw + ")", x.drawn(seed, draw), 1);
        s.due(what + ": drawn(" + seed + ", " + (draw + 1) + ")", x.drawn(seed, draw + 1), 0);
    }

    private void steps() {
        s.says(TERM, "DRAWS: x becomes (1103515245 x + 12345) modulo 2,147,483,648 (at first it is the seed);");
        TurningMarket x = two("ring turns 1 east;", 0, "");
        stuckAbove("0, then 68", x, 0, 0);
        for (int seed : SEEDS) {
            int[] draws = draws(seed, 2);
            stuckAbove("one RING", x, seed, Math.min(draws[0], draws[1]));
        }
        for (int seed = 100; seed < 180; seed++) {
            int[] draws = draws(seed, 2);
            stuckAbove("one RING", x, seed, Math.min(draws[0], draws[1]));
        }
    }

    private void draws() {
        s.says(TERM, "a draw: x / 65536, cut, modulo 100.");
        TurningMarket x = two("ring turns 1 east;", 0, "");
        int greatest = 0;
        int least = 99;
        int greatestSeed = 0;
        int leastSeed = 0;
        for (int seed = 0; seed < 5000; seed++) {
            int[] draws = draws(seed, 2);
            int draw = Math.min(draws[0], draws[1]);
            greatestSeed = draw > greatest ? seed : greatestSeed;
            leastSeed = draw <= least ? seed : leastSeed;
            greatest = Math.max(greatest, draw);
            least = Math.min(least, draw);
        }
        s.due("two draws of 98 and more", greatest >= 98 ? 1 : 0, 1);
        s.due("a draw of 0", least, 0);
        stuckAbove("the greatest", x, greatestSeed, greatest);
        stuckAbove("the least", x, leastSeed, least);
    }

    private void minuteByMinute() {
        s.says(TERM, "HOUR drawn: MINUTE by MINUTE, RING by RING a draw:");
        String[] rings = {"ring turns 1 east; ring turns 1 west; ring turns 1 east;",
            "ring turns 1 east; ring turns 1 west; ring turns 1 east;",
            "ring turns 0 east; ring turns 0 west; ring turns 1 east;"};
        for (int ring = 0; ring < 3; ring++) {
            TurningMarket x = two(rings[ring], ring, ring == 2 ? "stuck 0 from 0 to 1; stuck 1 from 0 to 1;" : "");
            for (int seed : SEEDS) {
                int[] draws = draws(seed, 6);
                stuckAbove("RING " + ring + " of three", x, seed, Math.min(draws[ring], draws[3 + ring]));
            }
        }
        TurningMarket four = weighed("");
        for (int seed : SEEDS) {
            for (int odds = 5; odds <= 95; odds += 18) {
                s.due("four MINUTES: drawn(" + seed + ", " + odds + ")", four.drawn(seed, odds), weightOf(seed, odds, 0));
            }
        }
    }

    /** Four minutes: at places 0, 1, 2 and 3 stand 0, 1, 2 and 3 buyers. */
    private static TurningMarket weighed(String more) {
        StringBuilder buyers = new StringBuilder();
        int[] places = {1, 2, 2, 3, 3, 3};
        for (int b = 0; b < 6; b++) {
            buyers.append("buyer at ").append(places[b]).append(" coins 0 habit eager; wants ").append(b).append(" 0 pieces 9 limit 0;");
        }
        return Due.loaded("market places 4 minutes 4; ring turns 1 east; stall 0 at 0 sells 0 pieces 20 price 0 fixed;" + buyers + more);
    }

    /** The sales of the weighed market; told are the minutes that are stuck without a draw, as bits. */
    private static int weightOf(int seed, int odds, int told) {
        int[] draws = draws(seed, 4);
        int place = 0;
        int sales = 0;
        boolean hasPassed = false;
        for (int m = 0; m < 4; m++) {
            boolean isStuck = draws[m] < odds || (told >> m & 1) == 1;
            if (!isStuck) {
                place += hasPassed ? 1 : 0;
                hasPassed = true;
            }
            sales += place;
        }
        return sales;
    }

    private void belowOdds() {
        s.says(TERM, "it is stuck (besides what is told), if it is below odds.");
        TurningMarket x = weighed("stuck 0 from 1 to 1; stuck 0 from 3 to 3;");
        for (int seed : SEEDS) {
            int[] draws = draws(seed, 4);
            for (int draw : draws) {
                s.due("a draw of odds", x.drawn(seed, draw), weightOf(seed, draw, 10));
                s.due("a draw below odds by one", x.drawn(seed, draw + 1), weightOf(seed, draw + 1, 10));
            }
        }
        s.due("as told: 0 0 1 1", x.drawn(0, 0), 2);
        s.due("all of them", x.drawn(0, 100), 0);
        s.due("what is told to be stuck stays", x.count(7), 2);
        s.due("the HOUR is as told", x.all(0), 2);
    }

    private void drawn() {
        s.says("Promise 37", "DRAWN (V) by a seed (0 .. 2,000,000,000) and odds (0 .. 100): how many SALES there are.");
        TurningMarket x = weighed("");
        for (int seed : SEEDS) {
            s.due("drawn(" + seed + ", 0)", x.drawn(seed, 0), 6);
            s.due("drawn(" + seed + ", 100)", x.drawn(seed, 100), 0);
            s.due("drawn(" + seed + ", 50)", x.drawn(seed, 50), weightOf(seed, 50, 0));
        }
        s.due("without RINGS", Due.loaded(Markets.BARE).drawn(5, 50), 0);
        s.says("Promise 37", "-2: there are none such, no MARKET.");
        s.edges("drawn", g -> x.drawn(g[0], g[1]), -2, of(2000000000, 100), to(0, 2000000000), to(0, 100));
        s.edges("drawn", g -> x.drawn(g[0], g[1]), -2, of(0, 0), to(0, 2000000000), to(0, 100));
        s.due("without a MARKET", new TurningMarket().drawn(0, 0), -2);
    }

    private void chance() {
        s.says("Promise 38", "Of n (1 .. 20) such HOURS from seeds, the seed and 1, .., in how many a BUYER has all.");
        String idle = "buyer at 0 coins 0 habit slow;";
        TurningMarket x = two("ring turns 1 east;", 0, idle + "buyer at 1 coins 0 habit slow; wants 2 1 pieces 1 limit 0;");
        int[] seeds = {0, 1, 77, 1999999999, 2000000000};
        for (int seed : seeds) {
            for (int n = 1; n <= 20; n++) {
                s.due("chance(" + seed + ", " + n + ", 30, 0)", x.chance(seed, n, 30, 0), timesFree(seed, n, 30));
            }
        }
        s.due("who wants nothing", x.chance(5, 20, 100, 1), 20);
        s.due("who never has it", x.chance(5, 20, 0, 2), 0);
        s.due("odds 0", x.chance(5, 20, 0, 0), 20);
        s.due("odds 100", x.chance(5, 20, 100, 0), 0);
        s.due("the HOUR is as told", x.all(0), 1);
        s.says("Promise 38", "-2: there are none such.");
        TurningMarket y = two("ring turns 1 east;", 0, idle);
        s.edges("chance", g -> y.chance(g[0], g[1], g[2], g[3]), -2, of(2000000000, 20, 100, 1),
            to(0, 2000000000), to(1, 20), to(0, 100), to(0, 1));
        s.edges("chance", g -> y.chance(g[0], g[1], g[2], g[3]), -2, of(0, 1, 0, 0),
            to(0, 2000000000), to(1, 20), to(0, 100), to(0, 1));
        s.due("without BUYERS", Due.loaded(Markets.BARE).chance(0, 1, 0, 0), -2);
        s.due("without a MARKET", new TurningMarket().chance(0, 1, 0, 0), -2);
    }

    private static int timesFree(int seed, int n, int odds) {
        int times = 0;
        for (int i = 0; i < n; i++) {
            int[] draws = draws((long) seed + i, 2);
            times += draws[0] >= odds && draws[1] >= odds ? 1 : 0;
        }
        return times;
    }
}
