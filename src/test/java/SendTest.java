/** Promises 25 and 26: pears sent by stalls. */
public final class SendTest {
    private static final Due DUE = new Due("SendTest");

    public static void main(String[] args) {
        small();
        byBuyers();
        rounds();
        noneSuch();
        DUE.finish();
    }

    private static void send(String what, TurningMarket x, int from, int to, int minute, int arrival, int stalls) {
        String call = what + ": send(" + from + ", " + to + ", " + minute + ", ";
        DUE.due(call + "0)", x.send(from, to, minute, 0), arrival);
        DUE.due(call + "1)", x.send(from, to, minute, 1), stalls);
    }

    private static void small() {
        TurningMarket x = Due.loaded(Markets.SMALL);
        send("small", x, 0, 1, 0, 1, 1);
        send("small", x, 0, 2, 0, 2, 1);
        send("small", x, 0, 3, 0, 3, 1);
        // it waits for stall 2 in minute 1
        send("small", x, 3, 1, 0, 3, 1);
        send("small", x, 3, 1, 2, 5, 1);
        send("small", x, 1, 0, 0, 4, 1);
        send("small", x, 1, 0, 4, -1, -1);
        send("small", x, 0, 1, 5, -1, -1);
        // a stall is elsewhere in a later minute only
        send("a minute behind", x, 2, 3, 2, 3, 1);
        send("a minute behind", x, 3, 2, 0, 2, 1);
        send("never", x, 3, 2, 2, -1, -1);
        send("bare", Due.loaded(Markets.BARE), 0, 1, 0, -1, -1);
    }

    private static void byBuyers() {
        String head = "market places 6 minutes 12; ring turns 5 east; ring turns 6 east;"
            + "stall 0 at 0 sells 0 pieces 0 price 0 fixed; stall 1 at 1 sells 0 pieces 0 price 0 fixed;";
        // stall 0 is at 1 from 5 on and at 2 from 10 on, stall 1 at 1 until 5 and at 2 from 6 on
        TurningMarket nobody = Due.loaded(head);
        send("nobody at 1", nobody, 0, 1, 0, 5, 1);
        send("nobody at 1", nobody, 0, 2, 0, 10, 1);
        TurningMarket somebody = Due.loaded(head + "buyer at 1 coins 0 habit eager;");
        send("somebody at 1", somebody, 0, 2, 0, 6, 2);
        send("somebody at 1", somebody, 0, 2, 4, 6, 2);
        send("somebody at 1", somebody, 0, 2, 5, -1, -1);
        send("somebody at 1", somebody, 1, 2, 0, 6, 1);
        somebody.moves(0, 3);
        send("somebody elsewhere", somebody, 0, 2, 0, 10, 1);
        TurningMarket equal = Due.loaded("market places 6 minutes 12; ring turns 3 east; ring turns 6 east;"
            + "stall 0 at 0 sells 0 pieces 0 price 0 fixed; stall 1 at 1 sells 0 pieces 0 price 0 fixed;"
            + "buyer at 1 coins 0 habit eager;");
        send("the fewest stalls of one minute", equal, 0, 2, 0, 6, 1);
        send("it waits", equal, 2, 3, 0, 9, 1);
        // from stall 0 to 1 to 2, each in the last minute in which they are at one place
        TurningMarket chain = Due.loaded("market places 6 minutes 12; ring turns 2 east; ring turns 3 east; ring turns 4 east;"
            + "stall 2 at 2 sells 0 pieces 0 price 0 fixed; stall 1 at 1 sells 0 pieces 0 price 0 fixed;"
            + "stall 0 at 0 sells 0 pieces 0 price 0 fixed; buyer at 1 coins 0 habit eager; buyer at 2 coins 0 habit eager;");
        // stall 2: 0 0 1 1 2 2 3 3 ..; stall 1: 1 1 1 2 2 2 3 3 3 4; stall 0: 2 2 2 2 3 3 3 3 4
        send("by three stalls", chain, 0, 3, 0, 4, 3);
        chain.moves(1, 5);
        send("nobody at 2", chain, 0, 3, 0, 6, 1);
    }

    private static void rounds() {
        TurningMarket x = Due.loaded(Markets.SMALL);
        DUE.due("round(0, 0)", x.round(0, 0), 2);
        DUE.due("round(3, 0)", x.round(3, 0), 3);
        DUE.due("round(1, 0)", x.round(1, 0), 2);
        DUE.due("round(2, 0)", x.round(2, 0), 3);
        DUE.due("round(0, 4)", x.round(0, 4), -1);
        x.moves(0, 2);
        DUE.due("where it is at first", x.round(2, 5), 5);
        DUE.due("where it is at first", x.round(2, 1), 1);
        DUE.due("never", x.round(1, 5), -1);
        DUE.due("without buyers", Due.loaded(Markets.BARE).round(2, 3), 3);
        DUE.due("without buyers", Due.loaded(Markets.BARE).round(0, 0), 0);
    }

    private static void noneSuch() {
        TurningMarket x = Due.loaded(Markets.SMALL);
        int[] wild = {-1, 6, Integer.MIN_VALUE, Integer.MAX_VALUE};
        for (int n : wild) {
            DUE.due("send(" + n + ", 0, 0, 0)", x.send(n, 0, 0, 0), -2);
            DUE.due("send(0, " + n + ", 0, 0)", x.send(0, n, 0, 0), -2);
            DUE.due("send(0, 1, " + n + ", 0)", x.send(0, 1, n, 0), -2);
            DUE.due("send(0, 1, 0, " + n + ")", x.send(0, 1, 0, n), -2);
            DUE.due("round(" + n + ", 0)", x.round(n, 0), -2);
            DUE.due("round(0, " + n + ")", x.round(0, n), -2);
        }
        DUE.due("send(4, 0, 0, 0)", x.send(4, 0, 0, 0), -2);
        DUE.due("send(0, 4, 0, 0)", x.send(0, 4, 0, 0), -2);
        DUE.due("send(1, 1, 0, 0)", x.send(1, 1, 0, 0), -2);
        DUE.due("send(0, 1, 0, 2)", x.send(0, 1, 0, 2), -2);
        DUE.due("round(4, 0)", x.round(4, 0), -2);
    }
}
