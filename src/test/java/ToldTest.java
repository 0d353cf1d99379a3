/** Promises 6, 7, 8 and 40: what the text tells. */
public final class ToldTest {
    private static final Due DUE = new Due("ToldTest");

    public static void main(String[] args) {
        TurningMarket x = Due.loaded(Markets.SMALL);
        told(x);
        noneSuch(x);
        counts();
        DUE.finish();
    }

    private static void told(TurningMarket x) {
        int[][] stalls = {{0, 0, 1, 3, 10, 0, 0}, {1, 3, 2, 2, 9, 1, 2}, {0, 2, 1, 1, 4, 2, 3}};
        for (int s = 0; s < 3; s++) {
            for (int what = 0; what < 7; what++) {
                DUE.due("stall(" + s + ", " + what + ")", x.stall(s, what), stalls[s][what]);
            }
        }
        int[][] buyers = {{1, 30, 0, 1}, {2, 12, 1, 1}};
        for (int b = 0; b < 2; b++) {
            for (int what = 0; what < 4; what++) {
                DUE.due("buyer(" + b + ", " + what + ")", x.buyer(b, what), buyers[b][what]);
            }
        }
        DUE.due("want(0, 0, 0)", x.want(0, 0, 0), 1);
        DUE.due("want(0, 0, 1)", x.want(0, 0, 1), 2);
        DUE.due("want(0, 0, 2)", x.want(0, 0, 2), 10);
        DUE.due("want(1, 0, 0)", x.want(1, 0, 0), 2);
        DUE.due("want(1, 0, 1)", x.want(1, 0, 1), 1);
        DUE.due("want(1, 0, 2)", x.want(1, 0, 2), 9);
        TurningMarket y = Due.loaded("market places 2 minutes 1; buyer at 1 coins 5 habit slow; buyer at 0 coins 6 habit eager;"
            + "wants 1 5 pieces 9 limit 99; wants 0 3 pieces 1 limit 2; wants 1 0 pieces 2 limit 3; wants 1 4 pieces 4 limit 0;");
        DUE.due("habit slow", y.buyer(0, 2), 2);
        DUE.due("three wants", y.buyer(1, 3), 3);
        DUE.due("want(1, 0, 0)", y.want(1, 0, 0), 5);
        DUE.due("want(1, 1, 1)", y.want(1, 1, 1), 2);
        DUE.due("want(1, 2, 0)", y.want(1, 2, 0), 4);
        DUE.due("want(1, 2, 2)", y.want(1, 2, 2), 0);
        DUE.due("want(1, 3, 0)", y.want(1, 3, 0), -2);
        DUE.due("want(0, 0, 0)", y.want(0, 0, 0), 3);
        DUE.due("want(0, 1, 0)", y.want(0, 1, 0), -2);
    }

    private static void noneSuch(TurningMarket x) {
        int[] wild = {-1, Integer.MIN_VALUE, Integer.MAX_VALUE, 60};
        for (int n : wild) {
            DUE.due("stall(" + n + ", 0)", x.stall(n, 0), -2);
            DUE.due("stall(0, " + n + ")", x.stall(0, n), -2);
            DUE.due("buyer(" + n + ", 0)", x.buyer(n, 0), -2);
            DUE.due("buyer(0, " + n + ")", x.buyer(0, n), -2);
            DUE.due("want(" + n + ", 0, 0)", x.want(n, 0, 0), -2);
            DUE.due("want(0, " + n + ", 0)", x.want(0, n, 0), -2);
            DUE.due("want(0, 0, " + n + ")", x.want(0, 0, n), -2);
            DUE.due("count(" + n + ")", x.count(n), -1);
        }
        DUE.due("stall(3, 0)", x.stall(3, 0), -2);
        DUE.due("stall(0, 7)", x.stall(0, 7), -2);
        DUE.due("buyer(2, 0)", x.buyer(2, 0), -2);
        DUE.due("buyer(0, 4)", x.buyer(0, 4), -2);
        DUE.due("want(2, 0, 0)", x.want(2, 0, 0), -2);
        DUE.due("want(0, 1, 0)", x.want(0, 1, 0), -2);
        DUE.due("want(0, 0, 3)", x.want(0, 0, 3), -2);
        DUE.due("count(9)", x.count(9), -1);
    }

    private static void counts() {
        TurningMarket x = Due.loaded(Markets.SMALL + "stuck 0 from 1 to 3; stuck 1 from 2 to 2; stuck 0 from 3 to 5;");
        int[] counts = {4, 6, 2, 3, 2, 13, 0, 6, 0};
        for (int what = 0; what < 9; what++) {
            DUE.due("count(" + what + ")", x.count(what), counts[what]);
        }
        x.feed(0, 0, 0, 0, 0);
        x.row(3, 0, 0);
        x.row(0, 0, 9);
        x.row(0, 1, 8);
        DUE.due("count(6) of twenty bytes", x.count(6), 20);
        DUE.due("count(8) of two rows, one of them without numbers", x.count(8), 2);
        DUE.due("a stuck trial", x.harm(0, 0) > -100 ? 1 : 0, 1);
        DUE.due("count(7) is what is told", x.count(7), 6);
        x.end(0);
        DUE.due("another market", Due.load(x, Markets.SMALL), 10);
        DUE.due("count(7) of it", x.count(7), 0);
        TurningMarket y = Due.loaded("market places 2 minutes 60; ring turns 1 east; ring turns 0 east; ring turns 1 west;"
            + "stuck 0 from 0 to 59; stuck 1 from 0 to 59; stuck 2 from 0 to 59; stuck 0 from 59 to 59;");
        DUE.due("count(7) of all", y.count(7), 180);
    }
}
