/** Promises 41 and 42: images gone back to. */
public final class ImageTest {
    private static final Due DUE = new Due("ImageTest");

    public static void main(String[] args) {
        changes();
        otherMarkets();
        noMarket();
        noneSuch();
        DUE.finish();
    }

    private static void changes() {
        TurningMarket x = Due.loaded(Markets.SMALL);
        DUE.due("keep(0)", x.keep(0), 0);
        x.moves(0, 3);
        x.offer(0, 77);
        x.turn(0, 5);
        DUE.due("keep(2)", x.keep(2), 0);
        DUE.due("back(0)", x.back(0), 0);
        DUE.due("buyer(0, 0)", x.buyer(0, 0), 1);
        DUE.due("stall(0, 4)", x.stall(0, 4), 10);
        DUE.due("at(0, 1)", x.at(0, 1), 1);
        DUE.due("all(1)", x.all(1), 21);
        DUE.due("back(2)", x.back(2), 0);
        DUE.due("buyer(0, 0)", x.buyer(0, 0), 3);
        DUE.due("stall(0, 4)", x.stall(0, 4), 77);
        DUE.due("turn(0, 1)", x.turn(0, 1), 5);
        // what changes behind back(2) does not change the image
        x.offer(0, 5);
        DUE.due("back(2) again", x.back(2), 0);
        DUE.due("stall(0, 4)", x.stall(0, 4), 77);
        DUE.due("turn(0, 5)", x.turn(0, 5), 5);
        DUE.due("the hour", x.asks(0, 0), 77);
        x.offer(0, 5);
        DUE.due("the hour", x.asks(0, 0), 5);
        x.back(2);
        DUE.due("the hour is that of the image", x.asks(0, 0), 77);
        DUE.due("turn(0, 5)", x.turn(0, 5), 5);
        DUE.due("keep(0) in place of the other", x.keep(0), 0);
        DUE.due("back(0)", x.back(0), 0);
        DUE.due("stall(0, 4)", x.stall(0, 4), 77);
    }

    private static void otherMarkets() {
        TurningMarket x = Due.loaded(Markets.SMALL + "stuck 0 from 1 to 2;");
        int sales = x.all(0);
        x.keep(1);
        x.row(0, 0, 3);
        Due.load(x, Markets.BARE);
        DUE.due("another market", x.count(3), 0);
        Due.load(x, "market places 2 minutes 2; buyer at 1 coins 1 habit slow; buyer at 1 coins 2 habit slow; buyer at 0 coins 3"
            + " habit slow; wants 0 0 pieces 1 limit 1; wants 0 1 pieces 1 limit 1; wants 1 2 pieces 3 limit 4; ring turns 4 west;");
        Due.feed(x, "ring");
        DUE.due("back(1)", x.back(1), 0);
        DUE.due("the tape and the rows stay", 10 * x.count(6) + x.count(8), 41);
        int[] counts = {4, 6, 2, 3, 2, 11};
        for (int what = 0; what < counts.length; what++) {
            DUE.due("count(" + what + ")", x.count(what), counts[what]);
        }
        DUE.due("count(7)", x.count(7), 2);
        DUE.due("want(0, 0, 0)", x.want(0, 0, 0), 1);
        DUE.due("buyer(0, 3)", x.buyer(0, 3), 1);
        DUE.due("want(1, 0, 2)", x.want(1, 0, 2), 9);
        DUE.due("at(0, 3)", x.at(0, 3), 1);
        DUE.due("at(1, 2)", x.at(1, 2), 2);
        DUE.due("all(0)", x.all(0), sales);
        DUE.due("fault(0) stays", x.fault(0), 0);
    }

    private static void noMarket() {
        TurningMarket x = new TurningMarket();
        DUE.due("keep(0) of no market", x.keep(0), 0);
        Due.load(x, Markets.SMALL);
        DUE.due("all(0)", x.all(0), 3);
        DUE.due("back(0) to no market", x.back(0), 0);
        DUE.due("all(0)", x.all(0), -2);
        DUE.due("count(5)", x.count(5), 0);
        DUE.due("stall(0, 0)", x.stall(0, 0), -2);
    }

    private static void noneSuch() {
        TurningMarket x = Due.loaded(Markets.SMALL);
        int[] wild = {-1, 3, Integer.MIN_VALUE, Integer.MAX_VALUE};
        for (int k : wild) {
            DUE.due("keep(" + k + ")", x.keep(k), -2);
            DUE.due("back(" + k + ")", x.back(k), -2);
        }
        for (int k = 0; k < 3; k++) {
            DUE.due("back(" + k + ") of nothing", x.back(k), -6);
        }
        DUE.due("all else stays", x.all(0), 3);
    }
}
