/** Promises 21 to 24: a buyer alone. */
public final class AloneTest {
    private static final Due DUE = new Due("AloneTest");

    public static void main(String[] args) {
        small();
        cheapestNext();
        bounds();
        quietPrices();
        DUE.finish();
    }

    private static void alone(String what, TurningMarket x, int buyer, int best, int cost, int needs) {
        DUE.due(what + ": best", x.best(buyer), best);
        DUE.due(what + ": cost", x.cost(buyer), cost);
        DUE.due(what + ": needs", x.needs(buyer), needs);
    }

    private static void choice(String what, TurningMarket x, int buyer, int... due) {
        for (int m = 0; m < due.length; m++) {
            DUE.due(what + ": choice(" + buyer + ", " + m + ")", x.choice(buyer, m), due[m]);
        }
    }

    private static void small() {
        TurningMarket x = Due.loaded(Markets.SMALL);
        DUE.due("cost(0) of a new one", x.cost(0), 14);
        DUE.due("cost(1) behind it", x.cost(1), 7);
        alone("small", x, 0, 2, 14, 14);
        choice("small", x, 0, 0, 1, 0, 1, 0, 0);
        // his habit is not asked
        alone("small", x, 1, 1, 7, 7);
        choice("small", x, 1, 0, 0, 1, 0, 0, 0);
        int[] wild = {-1, 2, 6, Integer.MIN_VALUE, Integer.MAX_VALUE};
        for (int n : wild) {
            alone("wrong " + n, x, n, -2, -2, -2);
            DUE.due("choice(" + n + ", 0)", x.choice(n, 0), -2);
        }
        DUE.due("choice(0, -1)", x.choice(0, -1), -2);
        DUE.due("choice(0, 6)", x.choice(0, 6), -2);
    }

    private static void cheapestNext() {
        String stalls = "stall 0 at 0 sells 0 pieces 9 price 30 falls 5; stall 1 at 0 sells 0 pieces 2 price 20 fixed;"
            + "stall 1 at 0 sells 1 pieces 1 price 20 fixed;";
        TurningMarket x = Due.loaded("market places 2 minutes 9; ring turns 1 east; ring turns 0 east;" + stalls
            + "buyer at 0 coins 999 habit slow; wants 0 0 pieces 4 limit 25; wants 0 1 pieces 3 limit 20;");
        // stall 0 asks 30 20 10 0 0 there in minutes 0 2 4 6 8; the others 20 in each: theirs are of a lesser minute than 2
        choice("cheapest", x, 0, 2, 0, 0, 0, 1, 0, 1, 0, 1);
        alone("cheapest", x, 0, 5, 50, -1);
        TurningMarket y = Due.loaded("market places 2 minutes 9; ring turns 1 east; ring turns 0 east;" + stalls
            + "buyer at 0 coins 29 habit slow; wants 0 0 pieces 4 limit 25; wants 0 1 pieces 1 limit 20;");
        choice("too few coins", y, 0, 0, 0, 0, 0, 1, 0, 1, 0, 1);
        alone("too few coins", y, 0, 3, 10, 50);
        TurningMarket z = Due.loaded("market places 2 minutes 9; ring turns 1 east; ring turns 0 east;" + stalls
            + "buyer at 0 coins 30 habit slow; wants 0 0 pieces 4 limit 25; wants 0 1 pieces 1 limit 20;");
        choice("the least minute, then stall", z, 0, 1, 0, 0, 0, 1, 0, 1, 0, 1);
        alone("the least minute", z, 0, 4, 30, 50);
    }

    private static void bounds() {
        String stall = "stall 0 at 0 sells 0 pieces 3 price 10 fixed;";
        alone("as many as it has", Due.loaded(Markets.still(9, stall
            + "buyer at 0 coins 999 habit eager; wants 0 0 pieces 5 limit 10;")), 0, 3, 30, -1);
        alone("one a minute", Due.loaded(Markets.still(2, stall
            + "buyer at 0 coins 999 habit eager; wants 0 0 pieces 3 limit 10;")), 0, 2, 20, -1);
        alone("as he wants", Due.loaded(Markets.still(9, stall
            + "buyer at 0 coins 999 habit eager; wants 0 0 pieces 2 limit 10;")), 0, 2, 20, 20);
        alone("for his coins", Due.loaded(Markets.still(9, stall
            + "buyer at 0 coins 29 habit eager; wants 0 0 pieces 3 limit 10;")), 0, 2, 20, 30);
        alone("to his last coin", Due.loaded(Markets.still(9, stall
            + "buyer at 0 coins 30 habit eager; wants 0 0 pieces 3 limit 10;")), 0, 3, 30, 30);
        alone("above his limit", Due.loaded(Markets.still(9, stall
            + "buyer at 0 coins 999 habit eager; wants 0 0 pieces 3 limit 9;")), 0, 0, 0, -1);
        alone("elsewhere", Due.loaded(Markets.still(9, stall
            + "buyer at 1 coins 999 habit eager; wants 0 0 pieces 3 limit 10;")), 0, 0, 0, -1);
        alone("another good", Due.loaded(Markets.still(9, stall
            + "buyer at 0 coins 999 habit eager; wants 0 1 pieces 3 limit 10;")), 0, 0, 0, -1);
        alone("who wants nothing", Due.loaded(Markets.still(9, stall + "buyer at 0 coins 999 habit eager;")), 0, 0, 0, 0);
        // he needs more than he could be told to have
        alone("more than 999", Due.loaded(Markets.still(9, stall.replace("pieces 3 price 10", "pieces 20 price 99")
            + "stall 0 at 0 sells 1 pieces 20 price 99 fixed;"
            + "buyer at 0 coins 999 habit eager; wants 0 0 pieces 9 limit 99; wants 0 1 pieces 9 limit 99;")), 0, 10, 990, 1782);
    }

    private static void quietPrices() {
        // alone he finds the prices that no sale has changed, and pieces that others would buy
        TurningMarket x = Due.loaded(Markets.still(4, "stall 0 at 0 sells 0 pieces 3 price 10 learns 5;"
            + "buyer at 0 coins 999 habit eager; buyer at 0 coins 35 habit thrifty;"
            + "wants 0 0 pieces 3 limit 99; wants 1 0 pieces 4 limit 12;"));
        alone("others aside", x, 1, 3, 30, -1);
        choice("others aside", x, 1, 1, 1, 1, 0);
        x.offer(0, 12);
        alone("offered", x, 1, 2, 24, -1);
        x.offer(0, 13);
        alone("offered", x, 1, 0, 0, -1);
        x.moves(0, 1);
        alone("moved", x, 0, 0, 0, -1);
    }
}
