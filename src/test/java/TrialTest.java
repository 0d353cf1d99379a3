/** Promises 27 to 30, 33 and 34: changed places, prices and stuck rings. */
public final class TrialTest {
    private static final Due DUE = new Due("TrialTest");

    public static void main(String[] args) {
        swaps();
        moves();
        offers();
        wisest();
        harms();
        noneSuch();
        DUE.finish();
    }

    private static void swaps() {
        String stalls = "stall 0 at 0 sells 0 pieces 9 price 1 fixed; stall 0 at 1 sells 1 pieces 9 price 1 fixed;"
            + "stall 0 at 2 sells 2 pieces 9 price 1 fixed;";
        String buyers = "buyer at 0 coins 9 habit eager; buyer at 1 coins 9 habit eager; buyer at 2 coins 9 habit eager;";
        TurningMarket x = Due.loaded(Markets.still(3, stalls + buyers
            + "wants 0 0 pieces 2 limit 1; wants 1 2 pieces 2 limit 1; wants 2 1 pieces 3 limit 1;"));
        DUE.due("told", x.all(0), 2);
        DUE.due("swap(0)", x.swap(0), 7);
        DUE.due("swap(1)", x.swap(1), 12);
        DUE.due("nobody has moved", x.buyer(1, 0), 1);
        DUE.due("the hour is as told", x.all(0), 2);
        TurningMarket y = Due.loaded(Markets.still(3, stalls + buyers
            + "wants 0 1 pieces 1 limit 1; wants 1 0 pieces 1 limit 1; wants 2 2 pieces 1 limit 1; wants 2 0 pieces 1 limit 1;"));
        DUE.due("told", y.all(0), 1);
        DUE.due("swap(0) of 3", y.swap(0), 3);
        DUE.due("swap(1) of 3", y.swap(1), 1);
        TurningMarket several = Due.loaded(Markets.still(3, stalls + buyers
            + "wants 0 1 pieces 1 limit 1; wants 1 2 pieces 1 limit 1; wants 2 0 pieces 1 limit 1;"));
        DUE.due("swap(0) of several", several.swap(0), 1);
        DUE.due("the least of several", several.swap(1), 1);
        TurningMarket small = Due.loaded(Markets.SMALL);
        DUE.due("none is better", small.swap(0), 3);
        DUE.due("none is better", small.swap(1), -1);
        TurningMarket bare = Due.loaded(Markets.BARE);
        DUE.due("without buyers", bare.swap(0), 0);
        DUE.due("without buyers", bare.swap(1), -1);
    }

    private static void moves() {
        TurningMarket x = Due.loaded(Markets.SMALL);
        DUE.due("moves(1, 3)", x.moves(1, 3), 2);
        DUE.due("where he stands", x.buyer(1, 0), 3);
        DUE.due("his hour there", x.all(0), 2);
        // stall 1 asks 9 at place 3 in minutes 0 and 1 of the first half
        DUE.due("his hour there", x.bought(1, 0), 0);
        DUE.due("alone there", x.best(1), 1);
        DUE.due("moves(1, 3) again", x.moves(1, 3), 3);
        DUE.due("moves(1, 1)", x.moves(1, 1), 3);
        // stall 1 asks 5 at place 1 in minutes 4 and 5
        DUE.due("sale(2, 0)", x.sale(2, 0), 4);
        DUE.due("sale(2, 3)", x.sale(2, 3), 5);
        DUE.due("passed", x.passed(0, 1, 1), 3);
    }

    private static void offers() {
        TurningMarket x = Due.loaded(Markets.SMALL);
        DUE.due("offer(1, 4)", x.offer(1, 4), 9);
        DUE.due("asks(1, 0)", x.asks(1, 0), 4);
        DUE.due("asks(1, 5)", x.asks(1, 5), 0);
        DUE.due("the thrifty one buys in minute 2", x.sale(1, 0), 2);
        DUE.due("for", x.sale(1, 3), 2);
        DUE.due("offer(1, 99)", x.offer(1, 99), 4);
        DUE.due("asks(1, 0)", x.asks(1, 0), 99);
        DUE.due("offer(1, 0)", x.offer(1, 0), 99);
        DUE.due("offer(1, 0) again", x.offer(1, 0), 0);
        DUE.due("what it is told to ask", x.stall(1, 4), 0);
        DUE.due("another stall", x.stall(0, 4), 10);
    }

    private static void wisest() {
        String stall = "stall 0 at 0 sells 0 pieces 9 price 50 fixed;";
        DUE.due("two for five", Due.loaded(Markets.still(5, stall
            + "buyer at 0 coins 10 habit eager; wants 0 0 pieces 3 limit 7;")).wise(0), 5);
        DUE.due("the least of several", Due.loaded(Markets.still(5, stall
            + "buyer at 0 coins 12 habit eager; wants 0 0 pieces 4 limit 99;")).wise(0), 3);
        DUE.due("the limit", Due.loaded(Markets.still(5, stall
            + "buyer at 0 coins 999 habit eager; wants 0 0 pieces 4 limit 99;")).wise(0), 99);
        DUE.due("who takes nothing", Due.loaded(Markets.still(5, stall)).wise(0), 0);
        // of two minutes it sells in both: p and p + 4, at most 20 each
        TurningMarket learns = Due.loaded(Markets.still(2, stall.replace("fixed", "learns 4")
            + "buyer at 0 coins 999 habit eager; wants 0 0 pieces 4 limit 20;"));
        DUE.due("one who learns", learns.wise(0), 16);
        DUE.due("the price stays", learns.stall(0, 4), 50);
        DUE.due("the hour is as told", learns.asks(0, 1), 46);
        // each minute he buys at stall 0 for 6 first: of 20 coins stall 1 takes 10 once, 4 twice, 7 once
        TurningMarket rivals = Due.loaded(Markets.still(4, "stall 0 at 0 sells 0 pieces 9 price 6 fixed;" + stall
            + "buyer at 0 coins 20 habit eager; wants 0 0 pieces 4 limit 10;"));
        DUE.due("beside another", rivals.wise(1), 10);
    }

    private static void harms() {
        TurningMarket x = Due.loaded(Markets.SMALL);
        DUE.due("harm(0, 0)", x.harm(0, 0), 2);
        DUE.due("harm(1, 0)", x.harm(1, 0), 1);
        DUE.due("harm(0, 2)", x.harm(0, 2), 0);
        DUE.due("least(0)", x.least(0), 1);
        DUE.due("least(2)", x.least(2), 0);
        DUE.due("least(5)", x.least(5), 0);
        DUE.due("the ring turns as told", x.at(0, 5), 1);
        DUE.due("the hour is as told", x.all(0), 3);
        TurningMarket y = Due.loaded("market places 2 minutes 4; ring turns 0 east; ring turns 1 east;"
            + "stall 1 at 1 sells 0 pieces 20 price 0 fixed; buyer at 1 coins 0 habit eager; wants 0 0 pieces 9 limit 0;");
        int[] harm = {-2, -2, 1, -1};
        for (int m = 0; m < 4; m++) {
            DUE.due("harm(1, " + m + ")", y.harm(1, m), harm[m]);
            DUE.due("harm(0, " + m + ")", y.harm(0, m), 0);
            DUE.due("least(" + m + ")", y.least(m), harm[m] < 0 ? 1 : 0);
        }
        TurningMarket stuck = Due.loaded("market places 2 minutes 4; ring turns 1 east; stuck 0 from 1 to 1;"
            + "stall 0 at 0 sells 0 pieces 20 price 0 fixed; buyer at 1 coins 0 habit eager; wants 0 0 pieces 9 limit 0;");
        // at 0 0 1 0; stuck in 3 too: at 0 0 1 1
        DUE.due("beside what is told", stuck.harm(0, 3), -1);
        DUE.due("beside what is told", stuck.harm(0, 2), 1);
        DUE.due("least of no rings", Due.loaded(Markets.BARE).least(0), -1);
    }

    private static void noneSuch() {
        TurningMarket x = Due.loaded(Markets.SMALL);
        int[] wild = {-1, 6, Integer.MIN_VALUE, Integer.MAX_VALUE};
        for (int n : wild) {
            DUE.due("swap(" + n + ")", x.swap(n), -2);
            DUE.due("moves(" + n + ", 0)", x.moves(n, 0), -2);
            DUE.due("moves(0, " + n + ")", x.moves(0, n), -2);
            DUE.due("offer(" + n + ", 0)", x.offer(n, 0), -2);
            DUE.due("wise(" + n + ")", x.wise(n), -2);
            DUE.due("harm(" + n + ", 0)", x.harm(n, 0), -2000000);
            DUE.due("harm(0, " + n + ")", x.harm(0, n), -2000000);
            DUE.due("least(" + n + ")", x.least(n), -2);
        }
        DUE.due("swap(2)", x.swap(2), -2);
        DUE.due("moves(2, 0)", x.moves(2, 0), -2);
        DUE.due("moves(0, 4)", x.moves(0, 4), -2);
        DUE.due("offer(3, 0)", x.offer(3, 0), -2);
        DUE.due("offer(0, -1)", x.offer(0, -1), -2);
        DUE.due("offer(0, 100)", x.offer(0, 100), -2);
        DUE.due("wise(3)", x.wise(3), -2);
        DUE.due("harm(2, 0)", x.harm(2, 0), -2000000);
        DUE.due("nothing has changed", x.stall(0, 4) + 100 * x.buyer(0, 0), 110);
    }
}
