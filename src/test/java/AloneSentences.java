/** The sentences of term III and of promises 21 to 24: a BUYER alone. */
final class AloneSentences extends SentenceGroup {
    private static final String TERM = "Term III";

    AloneSentences(Sentences sentences) {
        super(sentences);
    }

    @Override
    void all() {
        othersAside();
        oneOfEach();
        limits();
        asManyAs();
        bestOfAll();
        cheapestNext();
        best();
        cost();
        choice();
        needs();
    }

    private void alone(String what, TurningMarket x, int buyer, int best, int cost, int needs) {
        s.due(what + ": best(" + buyer + ")", x.best(buyer), best);
        s.due(what + ": cost(" + buyer + ")", x.cost(buyer), cost);
        s.due(what + ": needs(" + buyer + ")", x.needs(buyer), needs);
    }

    private void chooses(String what, TurningMarket x, int... due) {
        for (int m = 0; m < due.length; m++) {
            s.due(what + ": choice(0, " + m + ")", x.choice(0, m), due[m]);
        }
    }

    /** Of two places, so that a stall at 0 is there in minutes 0, 2, 4 and on. */
    private static TurningMarket turning(int minutes, String... lines) {
        return Due.loaded("market places 2 minutes " + minutes + "; ring turns 1 east; ring turns 0 east;" + String.join("", lines));
    }

    private void othersAside() {
        s.says(TERM, "A BUYER alone: others aside, prices as they would be, if nobody bought or was there:");
        TurningMarket x = still(4, stall(0, 4, 5, "learns 3"), RICH, RICH, want(0, 0, 4, 9), want(1, 0, 4, 4));
        alone("he has each piece, and none is dearer", x, 0, 4, 20, 20);
        alone("none is cheaper", x, 1, 0, 0, -1);
        TurningMarket rivals = still(4, stall(0, 4, 5, "fixed"), RICH, RICH, want(0, 0, 4, 5), want(1, 0, 3, 5));
        alone("none is taken by the first", rivals, 1, 3, 15, 15);
        TurningMarket falling = turning(5, stall(0, 9, 10, "falls 3"), buyer(14, "eager"), want(0, 0, 3, 10));
        alone("it falls as its RING turns", falling, 0, 3, 14, 14);
        falling.turn(0, 0);
        alone("it falls no more", falling, 0, 1, 10, 30);
        TurningMarket slow = still(4, stall(0, 9, 5, "fixed"), buyer(99, "slow"), buyer(99, "thrifty"), want(0, 0, 4, 9), want(1, 0, 4, 9));
        alone("whatever his habit", slow, 0, 4, 20, 20);
        alone("whatever his habit", slow, 1, 4, 20, 20);
    }

    private void oneOfEach() {
        s.says(TERM, "in each MINUTE one piece of each STALL that is ahead of him");
        alone("in one", still(1, stall(0, 9, 5, "fixed"), RICH, want(0, 0, 9, 9)), 0, 1, 5, -1);
        alone("in three", still(3, stall(0, 9, 5, "fixed"), RICH, want(0, 0, 9, 9)), 0, 3, 15, -1);
        alone("of two", still(3, stall(0, 9, 5, "fixed"), stall(0, 9, 1, "fixed"), RICH, want(0, 0, 9, 9)), 0, 6, 18, -1);
        alone("of two GOODS", still(3, stall(0, 9, 5, "fixed"), stall(1, 9, 1, "fixed"), RICH, want(0, 0, 3, 9), want(0, 1, 3,
            9)), 0, 6, 18, 18);
        alone("in 0, 2 and 4", turning(5, stall(0, 9, 5, "fixed"), RICH, want(0, 0, 9, 9)), 0, 3, 15, -1);
        alone("in 1 and 3", turning(5, stall(0, 9, 5, "fixed").replace("at 0", "at 1"), RICH, want(0, 0, 9, 9)), 0, 2, 10, -1);
        alone("never ahead of him", still(3, stall(0, 9, 5, "fixed").replace("at 0", "at 1"), RICH, want(0, 0, 9, 9)), 0, 0, 0, -1);
        TurningMarket moved = still(3, stall(0, 9, 5, "fixed"), RICH, want(0, 0, 3, 9));
        moved.moves(0, 1);
        alone("he has moved", moved, 0, 0, 0, -1);
    }

    private void limits() {
        s.says(TERM, "and asks no more than the limit of his WANT,");
        alone("limit", still(3, stall(0, 9, 9, "fixed"), RICH, want(0, 0, 3, 9)), 0, 3, 27, 27);
        alone("one above", still(3, stall(0, 9, 10, "fixed"), RICH, want(0, 0, 3, 9)), 0, 0, 0, -1);
        alone("0", still(3, stall(0, 9, 0, "fixed"), RICH, want(0, 0, 3, 0)), 0, 3, 0, 0);
        alone("99", still(3, stall(0, 9, 99, "fixed"), RICH, want(0, 0, 3, 99)), 0, 3, 297, 297);
        alone("of each WANT", still(2, stall(0, 9, 5, "fixed"), stall(1, 9, 5, "fixed"), RICH, want(0, 1, 2, 5), want(0, 0, 2,
            4)), 0, 2, 10, -1);
        // it asks 12, 6, 0 in minutes 0, 2, 4
        alone("fallen to limit", turning(5, stall(0, 9, 12, "falls 3"), RICH, want(0, 0, 3, 6)), 0, 2, 6, -1);
        alone("not fallen to limit", turning(5, stall(0, 9, 12, "falls 3"), RICH, want(0, 0, 3, 5)), 0, 1, 0, -1);
        alone("another GOOD", still(3, stall(1, 9, 9, "fixed"), RICH, want(0, 0, 3, 9)), 0, 0, 0, -1);
    }

    private void asManyAs() {
        s.says(TERM, "as many in all as it has, as he wants, for his coins.");
        alone("it has none", still(9, stall(0, 0, 5, "fixed"), RICH, want(0, 0, 1, 9)), 0, 0, 0, -1);
        alone("it has one", still(9, stall(0, 1, 5, "fixed"), RICH, want(0, 0, 2, 9)), 0, 1, 5, -1);
        alone("it has as many as he wants", still(9, stall(0, 2, 5, "fixed"), RICH, want(0, 0, 2, 9)), 0, 2, 10, 10);
        alone("it has more", still(9, stall(0, 3, 5, "fixed"), RICH, want(0, 0, 2, 9)), 0, 2, 10, 10);
        alone("each as it has", still(9, stall(0, 3, 5, "fixed"), stall(0, 1, 1, "fixed"), RICH, want(0, 0, 9, 9)), 0, 4, 16, -1);
        alone("just his coins", still(9, stall(0, 9, 5, "fixed"), buyer(20, "eager"), want(0, 0, 9, 9)), 0, 4, 20, 45);
        alone("one coin less", still(9, stall(0, 9, 5, "fixed"), buyer(19, "eager"), want(0, 0, 9, 9)), 0, 3, 15, 45);
        alone("no coins", still(9, stall(0, 9, 5, "fixed"), buyer(0, "eager"), want(0, 0, 9, 9)), 0, 0, 0, 45);
        alone("no coins, for nothing", still(9, stall(0, 9, 0, "fixed"), buyer(0, "eager"), want(0, 0, 9, 9)), 0, 9, 0, 0);
        alone("nothing wanted", still(9, stall(0, 9, 5, "fixed"), RICH), 0, 0, 0, 0);
    }

    private void bestOfAll() {
        s.says(TERM, "BEST: the most pieces; for the least coins;");
        // it asks 20, 14, 8, 2 in minutes 0, 2, 4, 6
        String falling = stall(0, 9, 20, "falls 3");
        alone("two cheap ones for one dear one", turning(7, falling, buyer(20, "eager"), want(0, 0, 9, 99)), 0, 2, 10, -1);
        alone("three", turning(7, falling, buyer(24, "eager"), want(0, 0, 9, 99)), 0, 3, 24, -1);
        alone("one coin too few for three", turning(7, falling, buyer(23, "eager"), want(0, 0, 9, 99)), 0, 2, 10, -1);
        alone("all four", turning(7, falling, buyer(44, "eager"), want(0, 0, 4, 99)), 0, 4, 44, 44);
        alone("the least of those that he wants", turning(7, falling, RICH, want(0, 0, 1, 99)), 0, 1, 2, 2);
        alone("the least of as many as it has", turning(7, stall(0, 2, 20, "falls 3"), RICH, want(0, 0, 2, 99)), 0, 2, 10, 10);
        // of the cheap GOOD he wants one alone, of the dear one two
        alone("each GOOD apart", turning(7, falling, stall(1, 9, 9, "fixed"), RICH, want(0, 0, 1, 99), want(0, 1, 2, 99)), 0, 3, 20, 20);
    }

    private void cheapestNext() {
        s.says(TERM, "CHOICE: always the cheapest next, of one price the least MINUTE, then STALL.");
        // it asks 20, 14, 8, 2 in minutes 0, 2, 4, 6
        String falling = stall(0, 9, 20, "falls 3");
        chooses("one", turning(7, falling, RICH, want(0, 0, 1, 99)), 0, 0, 0, 0, 0, 0, 1);
        chooses("two", turning(7, falling, RICH, want(0, 0, 2, 99)), 0, 0, 0, 0, 1, 0, 1);
        chooses("three", turning(7, falling, RICH, want(0, 0, 3, 99)), 0, 0, 1, 0, 1, 0, 1);
        chooses("four", turning(7, falling, RICH, want(0, 0, 9, 99)), 1, 0, 1, 0, 1, 0, 1);
        chooses("for his coins", turning(7, falling, buyer(23, "eager"), want(0, 0, 9, 99)), 0, 0, 0, 0, 1, 0, 1);
        chooses("the least MINUTE", still(5, stall(0, 9, 3, "fixed"), RICH, want(0, 0, 2, 9)), 1, 1, 0, 0, 0);
        chooses("both in one MINUTE", still(4, stall(0, 9, 3, "fixed"), stall(0, 9, 3, "fixed"), RICH, want(0, 0, 3, 9)), 2, 1, 0, 0);
        chooses("the least MINUTE of the other STALL", turning(4, stall(0, 9, 3, "fixed").replace("at 0", "at 1"),
            stall(0, 9, 3, "fixed").replace("stall 0", "stall 1"), RICH, want(0, 0, 1, 9)), 1, 0, 0, 0);
        chooses("the cheaper of two", still(4, stall(0, 9, 3, "fixed"), stall(0, 2, 2, "fixed"), RICH, want(0, 0, 4, 9)), 2, 2, 0, 0);
        chooses("nothing for 0", turning(9, stall(0, 9, 6, "falls 3"), buyer(0, "eager"), want(0, 0, 9, 9)), 0, 0, 1, 0, 1, 0, 1, 0, 1);
    }

    private void best() {
        s.says("Promise 21", "BEST of a BUYER alone (III): the most pieces.");
        TurningMarket x = Due.loaded(Markets.SMALL);
        s.due("best(0)", x.best(0), 2);
        s.due("best(1)", x.best(1), 1);
        TurningMarket most = still(60, stall(0, 9, 0, "fixed"), stall(1, 9, 0, "fixed"), stall(5, 20, 0, "fixed"), RICH,
            want(0, 0, 9, 0), want(0, 1, 9, 0), want(0, 5, 9, 0));
        s.due("twenty-seven", most.best(0), 27);
        s.says("Promise 21", "-2: there is none such.");
        s.edges("best", g -> x.best(g[0]), -2, of(0), to(0, 1));
        TurningMarket full = Due.loaded(ToldSentences.FULL);
        s.edges("best", g -> full.best(g[0]), -2, of(0), to(0, 5));
        s.due("without BUYERS", Due.loaded(Markets.BARE).best(0), -2);
    }

    private void cost() {
        s.says("Promise 22", "What he spends for them: the least.");
        TurningMarket x = Due.loaded(Markets.SMALL);
        s.due("cost(0)", x.cost(0), 14);
        s.due("cost(1)", x.cost(1), 7);
        x.moves(1, 3);
        s.due("cost(1) at 3, in 0 or 1", x.cost(1), 9);
        x.moves(1, 1);
        s.due("cost(1) at 1, in 4 or 5", x.cost(1), 5);
        s.says("Promise 22", "-2 likewise.");
        s.edges("cost", g -> x.cost(g[0]), -2, of(0), to(0, 1));
        TurningMarket full = Due.loaded(ToldSentences.FULL);
        s.edges("cost", g -> full.cost(g[0]), -2, of(0), to(0, 5));
    }

    private void choice() {
        s.says("Promise 23", "How many of the CHOICE (III) he buys in a MINUTE.");
        TurningMarket x = Due.loaded(Markets.SMALL);
        chooses("small", x, 0, 1, 0, 1, 0, 0);
        int[] other = {0, 0, 1, 0, 0, 0};
        for (int m = 0; m < 6; m++) {
            s.due("choice(1, " + m + ")", x.choice(1, m), other[m]);
        }
        TurningMarket three = still(3, stall(0, 9, 3, "fixed"), stall(0, 1, 3, "fixed"), stall(1, 9, 3, "fixed"), RICH, want(0, 0,
            3, 9), want(0, 1, 9, 9));
        chooses("three in one", three, 3, 2, 1);
        s.says("Promise 23", "-2: there are none such.");
        s.edges("choice", g -> x.choice(g[0], g[1]), -2, of(1, 5), to(0, 1), to(0, 5));
        TurningMarket full = Due.loaded(ToldSentences.FULL);
        s.edges("choice", g -> full.choice(g[0], g[1]), -2, of(0, 0), to(0, 5), to(0, 59));
    }

    private void needs() {
        s.says("Promise 24", "The least coins with which he alone could have all that he wants;");
        s.due("what he has not", still(3, stall(0, 9, 9, "fixed"), buyer(0, "eager"), want(0, 0, 3, 9)).needs(0), 27);
        s.due("less than he has", still(3, stall(0, 9, 9, "fixed"), RICH, want(0, 0, 3, 9)).needs(0), 27);
        s.due("of two WANTS", still(3, stall(0, 9, 9, "fixed"), stall(1, 9, 1, "fixed"), RICH, want(0, 0, 2, 9), want(0, 1, 3,
            9)).needs(0), 21);
        s.due("the cheap ones", turning(7, stall(0, 9, 20, "falls 3"), buyer(1, "slow"), want(0, 0, 3, 99)).needs(0), 24);
        s.due("for nothing", still(3, stall(0, 9, 0, "fixed"), buyer(0, "eager"), want(0, 0, 3, 9)).needs(0), 0);
        s.due("nothing", still(3, stall(0, 9, 9, "fixed"), buyer(0, "eager")).needs(0), 0);
        s.due("27 for 99", still(60, stall(0, 20, 99, "fixed"), stall(1, 20, 99, "fixed"), stall(2, 20, 99, "fixed"), RICH,
            want(0, 0, 9, 99), want(0, 1, 9, 99), want(0, 2, 9, 99)).needs(0), 2673);
        s.says("Promise 24", "NONE: with none.");
        s.due("too few pieces", still(9, stall(0, 2, 9, "fixed"), RICH, want(0, 0, 3, 9)).needs(0), -1);
        s.due("too few MINUTES", still(2, stall(0, 9, 9, "fixed"), RICH, want(0, 0, 3, 9)).needs(0), -1);
        s.due("above limit", still(9, stall(0, 9, 10, "fixed"), RICH, want(0, 0, 3, 9)).needs(0), -1);
        s.due("one of two WANTS", still(9, stall(0, 9, 1, "fixed"), RICH, want(0, 0, 3, 9), want(0, 1, 1, 99)).needs(0), -1);
        s.says("Promise 24", "-2: there is none such.");
        TurningMarket x = Due.loaded(Markets.SMALL);
        s.edges("needs", g -> x.needs(g[0]), -2, of(0), to(0, 1));
        TurningMarket full = Due.loaded(ToldSentences.FULL);
        s.edges("needs", g -> full.needs(g[0]), -2, of(0), to(0, 5));
    }
}
