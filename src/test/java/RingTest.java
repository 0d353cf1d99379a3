/** Promises 9 to 13, 32, 35 and 36: how the rings turn, and whom the stalls meet. */
public final class RingTest {
    private static final Due DUE = new Due("RingTest");

    public static void main(String[] args) {
        TurningMarket x = Due.loaded(Markets.SMALL);
        places(x);
        faces(x);
        noneSuch(x);
        stuck();
        turns();
        agains();
        DUE.finish();
    }

    private static void goes(TurningMarket x, int stall, int... places) {
        for (int m = 0; m < places.length; m++) {
            DUE.due("at(" + stall + ", " + m + ")", x.at(stall, m), places[m]);
        }
        DUE.due("at(" + stall + ", behind the hour)", x.at(stall, places.length), -2);
    }

    private static void places(TurningMarket x) {
        goes(x, 0, 0, 1, 2, 3, 0, 1);
        goes(x, 1, 3, 3, 2, 2, 1, 1);
        goes(x, 2, 2, 3, 0, 1, 2, 3);
        DUE.due("comes(0, 3, 0)", x.comes(0, 3, 0), 3);
        DUE.due("comes(0, 0, 0)", x.comes(0, 0, 0), 0);
        DUE.due("comes(0, 0, 1)", x.comes(0, 0, 1), 4);
        DUE.due("comes(0, 0, 5)", x.comes(0, 0, 5), -1);
        DUE.due("comes(0, 1, 5)", x.comes(0, 1, 5), 5);
        DUE.due("comes(1, 0, 0)", x.comes(1, 0, 0), -1);
        DUE.due("there(0, 0, 0)", x.there(0, 0, 0), 0);
        DUE.due("there(0, 2, 0)", x.there(0, 2, 0), 2);
        DUE.due("there(0, 3, 0)", x.there(0, 3, 0), -1);
        DUE.due("there(0, 0, 1)", x.there(0, 0, 1), -1);
        DUE.due("there(1, 3, 1)", x.there(1, 3, 1), 1);
        DUE.due("there(1, 0, 5)", x.there(1, 0, 5), -1);
        TurningMarket y = Due.loaded("market places 2 minutes 2; ring turns 1 west; ring turns 1 east;"
            + "stall 1 at 0 sells 0 pieces 0 price 0 fixed; stall 0 at 0 sells 0 pieces 0 price 0 fixed;"
            + "stall 0 at 0 sells 0 pieces 0 price 0 fixed;");
        DUE.due("the least of several", y.there(0, 0, 0), 1);
        DUE.due("the least of several", y.there(0, 1, 1), 1);
        DUE.due("stalls of one ring face each other", y.face(1, 2, 0), 0);
        DUE.due("they do so in minute 0 too", y.often(1, 2), 2);
        DUE.due("passed with nobody", y.passed(0, 0, 1), 0);
    }

    private static void faces(TurningMarket x) {
        DUE.due("face(0, 1, 0)", x.face(0, 1, 0), 2);
        DUE.due("face(1, 0, 2)", x.face(1, 0, 2), 2);
        DUE.due("face(0, 1, 3)", x.face(0, 1, 3), 5);
        DUE.due("face(0, 2, 0)", x.face(0, 2, 0), -1);
        DUE.due("face(1, 2, 0)", x.face(1, 2, 0), 1);
        DUE.due("face(1, 2, 2)", x.face(1, 2, 2), -1);
        DUE.due("often(0, 1)", x.often(0, 1), 2);
        DUE.due("often(2, 1)", x.often(2, 1), 1);
        DUE.due("often(0, 2)", x.often(0, 2), 0);
        DUE.due("passed(0, 0, 0)", x.passed(0, 0, 0), 0);
        DUE.due("passed(0, 1, 1)", x.passed(0, 1, 1), 1);
        DUE.due("passed(0, 2, 4)", x.passed(0, 2, 4), 2);
        DUE.due("passed(0, 0, 5)", x.passed(0, 0, 5), 3);
        DUE.due("passed(0, 3, 4)", x.passed(0, 3, 4), 0);
    }

    private static void noneSuch(TurningMarket x) {
        int[] wild = {-1, 6, Integer.MIN_VALUE, Integer.MAX_VALUE};
        for (int n : wild) {
            DUE.due("at(" + n + ", 0)", x.at(n, 0), -2);
            DUE.due("at(0, " + n + ")", x.at(0, n), -2);
            DUE.due("comes(" + n + ", 0, 0)", x.comes(n, 0, 0), -2);
            DUE.due("comes(0, " + n + ", 0)", x.comes(0, n, 0), -2);
            DUE.due("comes(0, 0, " + n + ")", x.comes(0, 0, n), -2);
            DUE.due("there(" + n + ", 0, 0)", x.there(n, 0, 0), -2);
            DUE.due("there(0, " + n + ", 0)", x.there(0, n, 0), -2);
            DUE.due("there(0, 0, " + n + ")", x.there(0, 0, n), -2);
            DUE.due("face(" + n + ", 0, 0)", x.face(n, 0, 0), -2);
            DUE.due("face(0, " + n + ", 0)", x.face(0, n, 0), -2);
            DUE.due("face(0, 1, " + n + ")", x.face(0, 1, n), -2);
            DUE.due("often(" + n + ", 0)", x.often(n, 0), -2);
            DUE.due("often(0, " + n + ")", x.often(0, n), -2);
            DUE.due("passed(" + n + ", 0, 0)", x.passed(n, 0, 0), -2);
            DUE.due("passed(0, " + n + ", 5)", x.passed(0, n, 5), -2);
            DUE.due("passed(0, 0, " + n + ")", x.passed(0, 0, n), -2);
            DUE.due("turn(" + n + ", 1)", x.turn(n, 1), -2);
        }
        DUE.due("face of one twice", x.face(1, 1, 0), -2);
        DUE.due("often of one twice", x.often(1, 1), -2);
        DUE.due("passed to less than from", x.passed(0, 3, 2), -2);
        DUE.due("at(3, 0)", x.at(3, 0), -2);
        DUE.due("comes(0, 4, 0)", x.comes(0, 4, 0), -2);
        DUE.due("there(2, 0, 0)", x.there(2, 0, 0), -2);
        DUE.due("turn(0, -1)", x.turn(0, -1), -2);
        DUE.due("turn(0, 61)", x.turn(0, 61), -2);
        DUE.due("turn(2, 1)", x.turn(2, 1), -2);
        goes(x, 0, 0, 1, 2, 3, 0, 1);
    }

    private static void stuck() {
        String head = "market places 5 minutes 10; ring turns 2 east; ring turns 2 west;"
            + "stall 0 at 0 sells 0 pieces 0 price 0 fixed; stall 1 at 0 sells 0 pieces 0 price 0 fixed;";
        goes(Due.loaded(head), 0, 0, 0, 1, 1, 2, 2, 3, 3, 4, 4);
        goes(Due.loaded(head), 1, 0, 0, 4, 4, 3, 3, 2, 2, 1, 1);
        TurningMarket x = Due.loaded(head + "stuck 0 from 1 to 2; stuck 0 from 2 to 4;");
        goes(x, 0, 0, 0, 0, 0, 0, 0, 1, 1, 2, 2);
        goes(x, 1, 0, 0, 4, 4, 3, 3, 2, 2, 1, 1);
        // stuck just when it would turn: it turns in the next minute, and counts anew from there
        goes(Due.loaded(head + "stuck 0 from 2 to 2;"), 0, 0, 0, 0, 1, 1, 2, 2, 3, 3, 4);
        goes(Due.loaded(head + "stuck 0 from 0 to 0;"), 0, 0, 0, 0, 1, 1, 2, 2, 3, 3, 4);
        goes(Due.loaded(head + "stuck 0 from 0 to 9;"), 0, 0, 0, 0, 0, 0, 0, 0, 0, 0, 0);
    }

    private static void turns() {
        TurningMarket x = Due.loaded(Markets.SMALL);
        DUE.due("turn(0, 0)", x.turn(0, 0), 1);
        goes(x, 0, 0, 0, 0, 0, 0, 0);
        goes(x, 1, 3, 3, 2, 2, 1, 1);
        DUE.due("turn(0, 3)", x.turn(0, 3), 0);
        goes(x, 0, 0, 0, 0, 1, 1, 1);
        DUE.due("turn(1, 60)", x.turn(1, 60), 2);
        goes(x, 1, 3, 3, 3, 3, 3, 3);
        DUE.due("turn(1, 1)", x.turn(1, 1), 60);
        goes(x, 1, 3, 2, 1, 0, 3, 2);
    }

    private static void agains() {
        TurningMarket x = Due.loaded(Markets.SMALL);
        DUE.due("again()", x.again(), 8);
        x.turn(0, 3);
        DUE.due("again() of 12 and 8", x.again(), 24);
        x.turn(1, 0);
        DUE.due("again() of 12", x.again(), 12);
        x.turn(0, 0);
        DUE.due("again() of none", x.again(), 1);
        DUE.due("again() without rings", Due.loaded(Markets.BARE).again(), 1);
        DUE.due("again() of 720 and 600", again(60, 50, 0), 3600);
        DUE.due("again() of 720, 600 and 36", again(60, 50, 3), 3600);
        DUE.due("again() of 720 and 84", again(60, 7, 0), -1);
        DUE.due("again() of 720, 708 and 12", again(60, 59, 1), -1);
        DUE.due("again() of 48, 60 and 84", again(4, 5, 7), 1680);
    }

    private static int again(int a, int b, int c) {
        return Due.loaded("market places 12 minutes 1; ring turns " + a + " east; ring turns " + b + " west; ring turns "
            + c + " east;").again();
    }
}
