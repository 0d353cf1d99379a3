/** The sentences of promises 27 to 30, 33 and 34: places and prices that are changed or tried, RINGS that stand still. */
final class TrialSentences extends SentenceGroup {
    private static final String GOODS = "stall 0 at 0 sells 0 pieces 9 price 1 fixed; stall 0 at 1 sells 1 pieces 9 price 1 fixed;"
        + "stall 0 at 2 sells 2 pieces 9 price 1 fixed;";

    TrialSentences(Sentences sentences) {
        super(sentences);
    }

    @Override
    void all() {
        swapMost();
        swapPair();
        swapNoneSuch();
        moves();
        movesNoneSuch();
        offer();
        offerNoneSuch();
        wise();
        wiseNoneSuch();
        harm();
        harmNoneSuch();
        least();
    }

    private static String buyer(int place) {
        return "buyer at " + place + " coins 99 habit eager;";
    }

    private static String want(int buyer, int good, int pieces) {
        return "wants " + buyer + " " + good + " pieces " + pieces + " limit 1;";
    }

    private void swaps(String what, TurningMarket x, int told, int most, int pair) {
        s.due(what + ": all(0)", x.all(0), told);
        s.due(what + ": swap(0)", x.swap(0), most);
        s.due(what + ": swap(1)", x.swap(1), pair);
        s.due(what + ": all(0) is as told behind it", x.all(0), told);
    }

    private void swapMost() {
        s.says("Promise 27", "SWAP: the most SALES by the HOUR, if two BUYERS changed PLACES (or none did), what 0: how many,");
        String three = buyer(0) + buyer(1) + buyer(2);
        swaps("the best of three pairs", still(3, GOODS, three, want(0, 0, 2), want(1, 2, 2), want(2, 1, 3)), 2, 7, 12);
        swaps("the most, not the first that is better", still(3, GOODS, three, want(0, 1, 1), want(2, 0, 3), want(2, 2, 1)), 1, 3, 2);
        swaps("all have what they want", still(3, GOODS, three, want(0, 0, 1), want(1, 1, 1), want(2, 2, 1)), 3, 3, -1);
        swaps("nobody could", still(3, GOODS, three, want(0, 5, 1), want(1, 5, 1)), 0, 0, -1);
        TurningMarket x = still(3, GOODS, three, want(0, 0, 2), want(1, 2, 2), want(2, 1, 3));
        x.swap(0);
        for (int b = 0; b < 3; b++) {
            s.due("where BUYER " + b + " stands behind it", x.buyer(b, 0), b);
        }
        x.moves(1, 2);
        x.moves(2, 1);
        swaps("as they stand now", x, 7, 7, -1);
    }

    private void swapPair() {
        s.says("Promise 27", "1: 10 times the lesser and the other, the least of several (NONE: none is better).");
        String nobody = buyer(3);
        swaps("0 and 1", still(2, GOODS, buyer(0), buyer(1), want(0, 1, 2), want(1, 0, 2)), 0, 4, 1);
        swaps("0 and 5", still(2, GOODS, buyer(0), nobody, nobody, nobody, nobody, buyer(1), want(0, 1, 2), want(5, 0, 2)), 0, 4, 5);
        swaps("4 and 5", still(2, GOODS, nobody, nobody, nobody, nobody, buyer(1), buyer(0), want(5, 1, 2), want(4, 0, 2)), 0, 4, 45);
        String four = buyer(0) + buyer(0) + buyer(1) + buyer(1);
        swaps("0 and 2, 0 and 3, 1 and 2, 1 and 3", still(2, GOODS, four, want(0, 1, 1), want(1, 1, 1), want(2, 0, 1), want(3, 0,
            1)), 0, 2, 2);
        swaps("1 and 2 or 0 and 3", still(2, GOODS, buyer(0), buyer(1), buyer(2), buyer(3), want(0, 5, 1), want(1, 2, 1), want(2,
            1, 1), want(3, 0, 2)),
            0, 2, 3);
        swaps("1 and 2, since 0 and 3 is less", still(2, GOODS, buyer(0), buyer(1), buyer(2), buyer(3), want(1, 2, 1), want(2, 1,
            1), want(3, 0, 1)),
            0, 2, 12);
        swaps("as many as told", still(2, GOODS, buyer(0), buyer(1), want(0, 0, 1), want(1, 0, 1)), 1, 1, -1);
        swaps("both at one PLACE", still(2, GOODS, buyer(0), buyer(0), want(0, 0, 1), want(1, 1, 1)), 1, 1, -1);
        swaps("one BUYER", still(2, GOODS, buyer(0), want(0, 1, 1)), 0, 0, -1);
        swaps("no BUYERS", Due.loaded(Markets.BARE), 0, 0, -1);
    }

    private void swapNoneSuch() {
        s.says("Promise 27", "-2: there is no such what, no MARKET.");
        TurningMarket x = Due.loaded(Markets.SMALL);
        s.edges("swap", g -> x.swap(g[0]), -2, of(0), to(0, 1));
        TurningMarket bare = Due.loaded(Markets.BARE);
        s.edges("swap", g -> bare.swap(g[0]), -2, of(0), to(0, 1));
        s.due("swap(0) without a MARKET", new TurningMarket().swap(0), -2);
        s.due("swap(1) without a MARKET", new TurningMarket().swap(1), -2);
    }

    private void moves() {
        s.says("Promise 28", "A BUYER stands at a PLACE from now on: where he stood.");
        TurningMarket x = Due.loaded(Markets.SMALL);
        s.due("moves(1, 3)", x.moves(1, 3), 2);
        s.due("buyer(1, 0)", x.buyer(1, 0), 3);
        s.due("bought(1, 0) there", x.bought(1, 0), 0);
        s.due("best(1) there", x.best(1), 1);
        s.due("passed(1, 0, 0) there", x.passed(1, 0, 0), 2);
        s.due("the other stays", x.buyer(0, 0), 1);
        s.due("moves(1, 1)", x.moves(1, 1), 3);
        s.due("all(0)", x.all(0), 3);
        s.due("sale(2, 0)", x.sale(2, 0), 4);
        s.due("sale(2, 3)", x.sale(2, 3), 5);
        s.due("moves(1, 1) again", x.moves(1, 1), 1);
        s.due("moves(0, 0)", x.moves(0, 0), 1);
        s.due("moves(0, 3)", x.moves(0, 3), 0);
        s.due("at the last PLACE", x.buyer(0, 0), 3);
        s.due("round(0, 0) to 1 and 3", x.round(0, 0), 3);
    }

    private void movesNoneSuch() {
        s.says("Promise 28", "-2: there are none such.");
        TurningMarket x = Due.loaded(Markets.SMALL);
        s.edges("moves", g -> x.moves(g[0], g[1]), -2, of(1, 3), to(0, 1), to(0, 3));
        TurningMarket full = Due.loaded(ToldSentences.FULL);
        s.edges("moves", g -> full.moves(g[0], g[1]), -2, of(0, 0), to(0, 5), to(0, 11));
        TurningMarket y = Due.loaded(Markets.SMALL);
        int[][] refused = {{2, 0}, {-1, 0}, {0, 4}, {0, -1}, {1, Integer.MAX_VALUE}, {1, Integer.MIN_VALUE}};
        for (int[] g : refused) {
            s.due("moves(" + g[0] + ", " + g[1] + ")", y.moves(g[0], g[1]), -2);
        }
        s.due("nothing has changed", y.buyer(0, 0), 1);
        s.due("nothing has changed", y.buyer(1, 0), 2);
        s.due("nothing has changed", y.all(1), 21);
    }

    private void offer() {
        s.says("Promise 29", "A STALL asks another price (0 .. 99) from now on: what it was.");
        TurningMarket x = Due.loaded(Markets.SMALL);
        s.due("offer(1, 4)", x.offer(1, 4), 9);
        int[] fallen = {4, 4, 2, 2, 0, 0};
        for (int m = 0; m < 6; m++) {
            s.due("asks(1, " + m + ")", x.asks(1, m), fallen[m]);
        }
        s.due("sale(1, 0): the thrifty one buys in 2", x.sale(1, 0), 2);
        s.due("sale(1, 3)", x.sale(1, 3), 2);
        s.due("cost(1)", x.cost(1), 2);
        s.due("the others stay", x.asks(0, 0), 10);
        s.due("offer(0, 99)", x.offer(0, 99), 10);
        s.due("asks(0, 5)", x.asks(0, 5), 99);
        s.due("offer(0, 0)", x.offer(0, 0), 99);
        s.due("asks(0, 5)", x.asks(0, 5), 0);
        s.due("offer(0, 0) again", x.offer(0, 0), 0);
        s.due("offer(2, 6)", x.offer(2, 6), 4);
        s.due("what it learns", x.asks(2, 4), 9);
    }

    private void offerNoneSuch() {
        s.says("Promise 29", "-2: there are none such.");
        TurningMarket x = Due.loaded(Markets.SMALL);
        s.edges("offer", g -> x.offer(g[0], g[1]), -2, of(2, 99), to(0, 2), to(0, 99));
        TurningMarket full = Due.loaded(ToldSentences.FULL);
        s.edges("offer", g -> full.offer(g[0], g[1]), -2, of(0, 0), to(0, 7), to(0, 99));
        TurningMarket y = Due.loaded(Markets.SMALL);
        int[][] refused = {{3, 0}, {-1, 0}, {0, 100}, {0, -1}, {1, Integer.MAX_VALUE}, {1, Integer.MIN_VALUE}};
        for (int[] g : refused) {
            s.due("offer(" + g[0] + ", " + g[1] + ")", y.offer(g[0], g[1]), -2);
        }
        s.due("nothing has changed", y.asks(0, 0), 10);
        s.due("nothing has changed", y.asks(1, 0), 9);
        s.due("nothing has changed", y.all(1), 21);
    }

    private void wise() {
        s.says("Promise 30", "The price (0 .. 99) by which a STALL takes most in the HOUR, all else as it is, the least of several.");
        String stall = "stall 0 at 0 sells 0 pieces 9 price 50 fixed;";
        String rich = "buyer at 0 coins 999 habit eager; wants 0 0 pieces 4 limit ";
        s.due("the most that it may ask", still(5, stall, rich, "99;").wise(0), 99);
        s.due("his limit", still(5, stall, rich, "98;").wise(0), 98);
        s.due("his limit of 1", still(5, stall, rich, "1;").wise(0), 1);
        s.due("the least, as it takes nothing", still(5, stall, rich, "0;").wise(0), 0);
        s.due("the least, without BUYERS", still(5, stall).wise(0), 0);
        s.due("the least, without pieces", still(5, stall.replace("pieces 9", "pieces 0"), rich, "99;").wise(0), 0);
        s.due("twice 5 of 10 coins", still(5, stall, "buyer at 0 coins 10 habit eager; wants 0 0 pieces 3 limit 7;").wise(0), 5);
        // 4 times 3, 3 times 4, 2 times 6 and 12 are as much
        s.due("the least of several", still(5, stall, "buyer at 0 coins 12 habit eager; wants 0 0 pieces 4 limit 99;").wise(0), 3);
        s.due("of one who learns", still(2, stall.replace("fixed", "learns 4"),
            "buyer at 0 coins 999 habit eager; wants 0 0 pieces 4 limit 20;").wise(0), 16);
        TurningMarket falls = Due.loaded("market places 2 minutes 3; ring turns 1 east; stall 0 at 0 sells 0 pieces 9 price 0 falls 3;"
            + "buyer at 0 coins 999 habit eager; wants 0 0 pieces 4 limit 20;");
        // in minutes 0 and 2: 20 and 14
        s.due("of one that falls", falls.wise(0), 20);
        TurningMarket rivals = still(4, "stall 0 at 0 sells 0 pieces 9 price 6 fixed;", stall,
            "buyer at 0 coins 20 habit eager; wants 0 0 pieces 4 limit 10;");
        s.due("beside another", rivals.wise(1), 10);
        s.due("its price stays", rivals.asks(1, 0), 50);
        s.due("the HOUR stays", rivals.all(0), 3);
        rivals.offer(0, 99);
        s.due("as the other is now", rivals.wise(1), 5);
    }

    private void wiseNoneSuch() {
        s.says("Promise 30", "-2: there is none such.");
        TurningMarket x = Due.loaded(Markets.SMALL);
        s.edges("wise", g -> x.wise(g[0]), -2, of(0), to(0, 2));
        TurningMarket full = Due.loaded(ToldSentences.FULL);
        s.edges("wise", g -> full.wise(g[0]), -2, of(0), to(0, 7));
        s.due("without STALLS", Due.loaded(Markets.BARE).wise(0), -2);
    }

    private void harm() {
        s.says("Promise 33", "STUCK: by how many fewer SALES there are, if a RING stands still from a MINUTE on (below 0: more).");
        TurningMarket x = Due.loaded(Markets.SMALL);
        // ring 0 from 0 on: none to buyer 0; from 1 on: none; from 2 on: stall 0 stays at 1
        int[] first = {2, 2, 0, 1, 0, 0};
        int[] second = {1, 1, 1, 0, 0, 0};
        for (int m = 0; m < 6; m++) {
            s.due("harm(0, " + m + ")", x.harm(0, m), first[m]);
            s.due("harm(1, " + m + ")", x.harm(1, m), second[m]);
        }
        s.due("all(0) behind it", x.all(0), 3);
        s.due("at(0, 5) behind it", x.at(0, 5), 1);
        s.due("count(7) behind it", x.count(7), 0);
        TurningMarket y = byTurns();
        int[] more = {-2, -2, 1, -1};
        for (int m = 0; m < 4; m++) {
            s.due("more: harm(1, " + m + ")", y.harm(1, m), more[m]);
            s.due("of one that never turns: harm(0, " + m + ")", y.harm(0, m), 0);
        }
        TurningMarket stuck = Due.loaded("market places 2 minutes 4; ring turns 1 east; stuck 0 from 1 to 1;"
            + "stall 0 at 0 sells 0 pieces 20 price 0 fixed; buyer at 1 coins 0 habit eager; wants 0 0 pieces 9 limit 0;");
        s.due("beside what is told: at 0 0 1 1", stuck.harm(0, 3), -1);
        s.due("beside what is told: at 0 0 0 0", stuck.harm(0, 2), 1);
        TurningMarket hour = Due.loaded("market places 2 minutes 60; ring turns 59 east; stall 0 at 0 sells 0 pieces 1 price 0 fixed;"
            + "buyer at 1 coins 0 habit eager; wants 0 0 pieces 1 limit 0;");
        s.due("in the last MINUTE of sixty", hour.harm(0, 59), 1);
        s.due("in the one ahead", hour.harm(0, 58), 1);
        s.due("in the first", hour.harm(0, 0), 1);
    }

    /** Ring 0 never turns; a stall of ring 1 is ahead of the buyer in minutes 0 and 2. */
    private static TurningMarket byTurns() {
        return Due.loaded("market places 2 minutes 4; ring turns 0 east; ring turns 1 east;"
            + "stall 1 at 1 sells 0 pieces 20 price 0 fixed; buyer at 1 coins 0 habit eager; wants 0 0 pieces 9 limit 0;");
    }

    private void harmNoneSuch() {
        s.says("Promise 33", "-2,000,000: there are none such.");
        TurningMarket x = Due.loaded(Markets.SMALL);
        s.edges("harm", g -> x.harm(g[0], g[1]), -2000000, of(1, 5), to(0, 1), to(0, 5));
        TurningMarket full = Due.loaded(ToldSentences.FULL);
        s.edges("harm", g -> full.harm(g[0], g[1]), -2000000, of(0, 0), to(0, 2), to(0, 59));
        s.due("without RINGS", Due.loaded(Markets.BARE).harm(0, 0), -2000000);
        s.due("without a MARKET", new TurningMarket().harm(0, 0), -2000000);
    }

    private void least() {
        s.says("Promise 34", "The RING by which that is least, the first of several.");
        TurningMarket x = Due.loaded(Markets.SMALL);
        int[] due = {1, 1, 0, 1, 0, 0};
        TurningMarket y = byTurns();
        int[] other = {1, 1, 0, 1};
        for (int m = 0; m < 6; m++) {
            s.due("least(" + m + ")", x.least(m), due[m]);
        }
        for (int m = 0; m < 4; m++) {
            s.due("more: least(" + m + ")", y.least(m), other[m]);
        }
        TurningMarket three = Due.loaded("market places 2 minutes 2; ring turns 1 east; ring turns 1 east; ring turns 0 west;"
            + "stall 0 at 0 sells 0 pieces 1 price 0 fixed; stall 1 at 0 sells 1 pieces 1 price 0 fixed;"
            + "buyer at 1 coins 0 habit eager; wants 0 0 pieces 1 limit 0; wants 0 1 pieces 1 limit 0;");
        s.due("the third", three.least(0), 2);
        three.turn(2, 1);
        s.due("the third still", three.least(1), 2);
        s.due("the HOUR is as told", three.all(0), 2);
        s.says("Promise 34", "-2: there is no such MINUTE.");
        s.edges("least", g -> x.least(g[0]), -2, of(0), to(0, 5));
        TurningMarket full = Due.loaded(ToldSentences.FULL);
        s.edges("least", g -> full.least(g[0]), -2, of(0), to(0, 59));
        s.due("without a MARKET", new TurningMarket().least(0), -2);
    }
}
