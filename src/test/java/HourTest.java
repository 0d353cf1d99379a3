/** Promises 14 to 20: the hour, minute by minute. */
public final class HourTest {
    private static final Due DUE = new Due("HourTest");

    public static void main(String[] args) {
        small();
        noneSuch();
        habits();
        order();
        falling();
        learning();
        ends();
        DUE.finish();
    }

    private static void sales(String what, TurningMarket x, int[]... due) {
        DUE.due(what + ": all(0)", x.all(0), due.length);
        for (int i = 0; i < due.length; i++) {
            for (int k = 0; k < 4; k++) {
                DUE.due(what + ": sale(" + i + ", " + k + ")", x.sale(i, k), due[i][k]);
            }
        }
        for (int k = 0; k < 4; k++) {
            DUE.due(what + ": the sale behind the last", x.sale(due.length, k), -1);
        }
    }

    private static void asks(String what, TurningMarket x, int stall, int... due) {
        for (int m = 0; m < due.length; m++) {
            DUE.due(what + ": asks(" + stall + ", " + m + ")", x.asks(stall, m), due[m]);
        }
    }

    private static void small() {
        TurningMarket x = Due.loaded(Markets.SMALL);
        sales("small", x, new int[] {1, 0, 0, 10}, new int[] {3, 2, 0, 4}, new int[] {3, 1, 1, 7});
        asks("small", x, 0, 10, 10, 10, 10, 10, 10);
        asks("small", x, 1, 9, 9, 7, 7, 5, 5);
        asks("small", x, 2, 4, 4, 4, 4, 7, 7);
        int[][] has = {{3, 2, 2, 2, 2, 2}, {2, 2, 2, 1, 1, 1}, {1, 1, 1, 0, 0, 0}};
        int[][] coins = {{30, 20, 20, 16, 16, 16}, {12, 12, 12, 5, 5, 5}};
        for (int m = 0; m < 6; m++) {
            for (int s = 0; s < 3; s++) {
                DUE.due("has(" + s + ", " + m + ")", x.has(s, m), has[s][m]);
            }
            for (int b = 0; b < 2; b++) {
                DUE.due("coins(" + b + ", " + m + ")", x.coins(b, m), coins[b][m]);
            }
        }
        int[][] sold = {{1, 10, 1}, {1, 7, 3}, {1, 4, 3}};
        int[][] bought = {{2, 14, 0, 3}, {1, 7, 0, 3}};
        int[] all = {3, 21, 0, 2, 3};
        for (int what = 0; what < 5; what++) {
            for (int s = 0; s < 3 && what < 3; s++) {
                DUE.due("sold(" + s + ", " + what + ")", x.sold(s, what), sold[s][what]);
            }
            for (int b = 0; b < 2 && what < 4; b++) {
                DUE.due("bought(" + b + ", " + what + ")", x.bought(b, what), bought[b][what]);
            }
            DUE.due("all(" + what + ")", x.all(what), all[what]);
        }
    }

    private static void noneSuch() {
        TurningMarket x = Due.loaded(Markets.SMALL);
        int[] wild = {-1, 6, Integer.MIN_VALUE, Integer.MAX_VALUE};
        for (int n : wild) {
            DUE.due("asks(" + n + ", 0)", x.asks(n, 0), -2);
            DUE.due("asks(0, " + n + ")", x.asks(0, n), -2);
            DUE.due("has(" + n + ", 0)", x.has(n, 0), -2);
            DUE.due("has(0, " + n + ")", x.has(0, n), -2);
            DUE.due("sold(" + n + ", 0)", x.sold(n, 0), -2);
            DUE.due("sold(0, " + n + ")", x.sold(0, n), -2);
            DUE.due("bought(" + n + ", 0)", x.bought(n, 0), -2);
            DUE.due("bought(0, " + n + ")", x.bought(0, n), -2);
            DUE.due("coins(" + n + ", 0)", x.coins(n, 0), -2);
            DUE.due("coins(0, " + n + ")", x.coins(0, n), -2);
            DUE.due("sale(" + n + ", 0)", x.sale(n, 0), -1);
            DUE.due("sale(0, " + n + ")", x.sale(0, n), -2);
            DUE.due("sale(" + n + ", " + n + ")", x.sale(n, n), -2);
            DUE.due("all(" + n + ")", x.all(n), -2);
        }
        DUE.due("asks(3, 0)", x.asks(3, 0), -2);
        DUE.due("has(3, 0)", x.has(3, 0), -2);
        DUE.due("sold(3, 0)", x.sold(3, 0), -2);
        DUE.due("sold(0, 3)", x.sold(0, 3), -2);
        DUE.due("bought(2, 0)", x.bought(2, 0), -2);
        DUE.due("bought(0, 4)", x.bought(0, 4), -2);
        DUE.due("coins(2, 0)", x.coins(2, 0), -2);
        DUE.due("sale(0, 4)", x.sale(0, 4), -2);
        DUE.due("all(5)", x.all(5), -2);
    }

    private static void habits() {
        TurningMarket eager = Due.loaded(Markets.still(3, "stall 0 at 0 sells 0 pieces 20 price 9 fixed;"
            + "buyer at 0 coins 18 habit eager; wants 0 0 pieces 9 limit 9;"));
        sales("eager, to his last coin", eager, new int[] {0, 0, 0, 9}, new int[] {1, 0, 0, 9});
        eager.offer(0, 10);
        sales("above his limit", eager);
        // minutes 5: 0, 1 and 2 are the first half; half of 9 is 4
        String thrifty = "stall 0 at 0 sells 0 pieces 20 price 5 fixed; buyer at 0 coins 999 habit thrifty; wants 0 0 pieces 9 limit 9;";
        TurningMarket five = Due.loaded(Markets.still(5, thrifty));
        sales("thrifty of five", five, new int[] {3, 0, 0, 5}, new int[] {4, 0, 0, 5});
        TurningMarket four = Due.loaded(Markets.still(4, thrifty));
        sales("thrifty of four", four, new int[] {2, 0, 0, 5}, new int[] {3, 0, 0, 5});
        four.offer(0, 4);
        DUE.due("thrifty at half the limit", four.all(0), 4);
        four.offer(0, 9);
        DUE.due("thrifty at the limit", four.all(0), 2);
        four.offer(0, 10);
        DUE.due("thrifty above the limit", four.all(0), 0);
        TurningMarket slow = Due.loaded(Markets.still(7, "stall 0 at 0 sells 0 pieces 20 price 2 fixed;"
            + "stall 0 at 0 sells 1 pieces 20 price 1 fixed; buyer at 0 coins 999 habit slow;"
            + "wants 0 1 pieces 9 limit 1; wants 0 0 pieces 2 limit 2;"));
        sales("slow", slow, new int[] {0, 0, 0, 2}, new int[] {0, 1, 0, 1}, new int[] {3, 0, 0, 2},
            new int[] {3, 1, 0, 1}, new int[] {6, 1, 0, 1});
        slow.offer(1, 2);
        sales("slow and a limit", slow, new int[] {0, 0, 0, 2}, new int[] {3, 0, 0, 2});
    }

    private static void order() {
        String two = "stall 0 at 2 sells 0 pieces 1 price 5 fixed; stall 0 at 1 sells 0 pieces 2 price 5 fixed;";
        TurningMarket x = Due.loaded(Markets.still(2, two + "buyer at 2 coins 9 habit eager; buyer at 1 coins 9 habit eager;"
            + "buyer at 2 coins 9 habit eager; buyer at 1 coins 9 habit eager; wants 0 0 pieces 3 limit 9;"
            + "wants 1 0 pieces 3 limit 9; wants 2 0 pieces 3 limit 9; wants 3 0 pieces 3 limit 9;"));
        sales("place by place, buyer by buyer", x, new int[] {0, 1, 1, 5}, new int[] {0, 1, 3, 5}, new int[] {0, 0, 0, 5});
        DUE.due("pieces wanted still", x.all(2), 9);
        DUE.due("one piece each", x.bought(1, 0), 1);
        DUE.due("has not all", x.bought(1, 3), -1);
        TurningMarket y = Due.loaded(Markets.still(2, "stall 0 at 1 sells 3 pieces 2 price 5 fixed;"
            + "stall 0 at 1 sells 3 pieces 2 price 4 fixed; buyer at 1 coins 8 habit eager; wants 0 3 pieces 2 limit 9;"));
        sales("stall by stall", y, new int[] {0, 0, 0, 5});
        y.offer(0, 4);
        sales("from both in a minute", y, new int[] {0, 0, 0, 4}, new int[] {0, 1, 0, 4});
        DUE.due("has all in minute 0", y.bought(0, 3), 0);
    }

    private static void falling() {
        TurningMarket x = Due.loaded("market places 3 minutes 7; ring turns 1 west; stall 0 at 0 sells 0 pieces 9 price 50 falls 20;"
            + "buyer at 0 coins 10 habit eager; wants 0 0 pieces 4 limit 99; stuck 0 from 2 to 2;");
        asks("falls", x, 0, 50, 30, 30, 10, 0, 0, 0);
        // at 0, 2, 2, 1, 0, 2, 1
        sales("falls", x, new int[] {4, 0, 0, 0});
        x.moves(0, 1);
        sales("falls", x, new int[] {3, 0, 0, 10}, new int[] {6, 0, 0, 0});
        DUE.due("coins(0, 3)", x.coins(0, 3), 0);
    }

    private static void learning() {
        String stall = "stall 0 at 0 sells 0 pieces 2 price 90 learns 7;";
        TurningMarket up = Due.loaded(Markets.still(4, stall + "buyer at 0 coins 999 habit eager; wants 0 0 pieces 9 limit 99;"));
        asks("learns from sales, and does not when it has none", up, 0, 90, 97, 99, 99);
        TurningMarket down = Due.loaded(Markets.still(6, "stall 0 at 0 sells 0 pieces 1 price 20 learns 9;"
            + "buyer at 0 coins 999 habit eager; wants 0 0 pieces 9 limit 1;"));
        asks("learns from a limit", down, 0, 20, 11, 2, 0, 9, 9);
        TurningMarket poor = Due.loaded(Markets.still(5, "stall 0 at 0 sells 0 pieces 5 price 20 learns 9;"
            + "buyer at 0 coins 3 habit eager; wants 0 0 pieces 9 limit 99;"));
        asks("learns from coins", poor, 0, 20, 11, 2, 11, 2);
        TurningMarket other = Due.loaded(Markets.still(3, stall + "buyer at 1 coins 9 habit eager; buyer at 0 coins 9 habit eager;"
            + "wants 0 0 pieces 9 limit 1; wants 1 1 pieces 9 limit 1;"));
        asks("nobody comes, or wants another good", other, 0, 90, 90, 90);
        TurningMarket empty = Due.loaded(Markets.still(3, "stall 0 at 0 sells 0 pieces 0 price 90 learns 7;"
            + "buyer at 0 coins 9 habit eager; wants 0 0 pieces 9 limit 1;"));
        asks("without pieces", empty, 0, 90, 90, 90);
        TurningMarket thrifty = Due.loaded(Markets.still(4, "stall 0 at 0 sells 0 pieces 9 price 8 learns 1;"
            + "buyer at 0 coins 99 habit thrifty; wants 0 0 pieces 9 limit 10;"));
        asks("not too dear for the limit of a thrifty one", thrifty, 0, 8, 8, 8, 9);
        TurningMarket slow = Due.loaded(Markets.still(4, "stall 0 at 0 sells 0 pieces 9 price 8 learns 3;"
            + "buyer at 0 coins 99 habit slow; wants 0 0 pieces 9 limit 10;"));
        asks("too dear for a slow one who waits", slow, 0, 8, 11, 8, 8);
        // stall 0 is too dear for buyer 0 but sells to buyer 1
        TurningMarket both = Due.loaded(Markets.still(2, "stall 0 at 0 sells 0 pieces 9 price 8 learns 3;"
            + "buyer at 0 coins 99 habit eager; buyer at 0 coins 99 habit eager;"
            + "wants 0 0 pieces 9 limit 7; wants 1 0 pieces 9 limit 9;"));
        asks("a sale outdoes one who finds it too dear", both, 0, 8, 11);
        inThatOrder();
    }

    private static void inThatOrder() {
        String ahead = "stall 0 at 0 sells 0 pieces 9 price 5 fixed; stall 0 at 0 sells 0 pieces 9 price 50 learns 3;";
        String buyer = "buyer at 0 coins 99 habit eager; wants 0 0 pieces 1 limit 9;";
        asks("he has all when he comes to it", Due.loaded(Markets.still(3, ahead + buyer)), 1, 50, 50, 50);
        String behind = "stall 0 at 0 sells 0 pieces 9 price 50 learns 3; stall 0 at 0 sells 0 pieces 9 price 5 fixed;";
        asks("he lacked some when he came to it", Due.loaded(Markets.still(3, behind + buyer)), 0, 50, 47, 47);
        String goods = "stall 0 at 0 sells 0 pieces 9 price 8 fixed; stall 0 at 0 sells 1 pieces 9 price 5 learns 1;";
        TurningMarket coins = Due.loaded(Markets.still(3, goods + "buyer at 0 coins 10 habit eager;"
            + "wants 0 0 pieces 1 limit 9; wants 0 1 pieces 1 limit 9;"));
        asks("his coins then", coins, 1, 5, 4, 3);
        DUE.due("the last piece in minute", coins.bought(0, 3), -1);
    }

    private static void ends() {
        TurningMarket x = Due.loaded(Markets.still(3, "stall 0 at 0 sells 0 pieces 4 price 1 fixed;"
            + "stall 0 at 1 sells 0 pieces 4 price 1 fixed; buyer at 0 coins 9 habit eager; buyer at 0 coins 9 habit slow;"
            + "buyer at 3 coins 7 habit eager; buyer at 0 coins 0 habit eager; wants 0 0 pieces 2 limit 1;"
            + "wants 1 0 pieces 1 limit 1; wants 3 0 pieces 1 limit 1; wants 3 1 pieces 8 limit 1;"));
        DUE.due("who wants nothing has all in minute 0", x.bought(2, 3), 0);
        DUE.due("who wants nothing", x.bought(2, 2), 0);
        DUE.due("bought(0, 3)", x.bought(0, 3), 1);
        DUE.due("bought(1, 3)", x.bought(1, 3), 0);
        DUE.due("bought(3, 3)", x.bought(3, 3), -1);
        DUE.due("bought(3, 2)", x.bought(3, 2), 9);
        DUE.due("who have all", x.all(3), 3);
        DUE.due("pieces wanted still", x.all(2), 9);
        DUE.due("the minute with most sales", x.all(4), 0);
        DUE.due("no first sale", x.sold(1, 2), -1);
        DUE.due("no sale", x.sold(1, 1), 0);
        TurningMarket equal = Due.loaded(Markets.still(5, "stall 0 at 0 sells 0 pieces 2 price 1 fixed;"
            + "buyer at 0 coins 9 habit slow; wants 0 0 pieces 2 limit 1;"));
        DUE.due("the first minute of several", equal.all(4), 0);
        TurningMarket pairs = Due.loaded(Markets.still(5, "stall 0 at 0 sells 0 pieces 4 price 1 fixed;"
            + "stall 0 at 0 sells 0 pieces 9 price 1 fixed; buyer at 0 coins 9 habit eager; wants 0 0 pieces 4 limit 1;"));
        DUE.due("the first minute of two with two sales", pairs.all(4), 0);
        TurningMarket none = Due.loaded(Markets.BARE);
        int[] all = {0, 0, 0, 0, -1};
        for (int what = 0; what < 5; what++) {
            DUE.due("bare: all(" + what + ")", none.all(what), all[what]);
        }
        DUE.due("bare: sale(0, 0)", none.sale(0, 0), -1);
        TurningMarket most = Due.loaded("market places 2 minutes 60; ring turns 0 east;"
            + "stall 0 at 0 sells 0 pieces 20 price 0 fixed;stall 0 at 0 sells 1 pieces 20 price 0 fixed;".repeat(4)
            + "buyer at 0 coins 0 habit eager;".repeat(6) + wantsOfSix());
        DUE.due("most sales", most.all(0), 54 + 54);
        DUE.due("the last of them", most.sale(107, 2), 5);
    }

    private static String wantsOfSix() {
        StringBuilder text = new StringBuilder();
        for (int b = 0; b < 6; b++) {
            text.append("wants ").append(b).append(" 0 pieces 9 limit 0;wants ").append(b).append(" 1 pieces 9 limit 0;");
        }
        return text.toString();
    }
}
