/** Promises 31, 39, 43, 44 and 45: rows of numbers, thefts and prices. */
public final class RowTest {
    private static final Due DUE = new Due("RowTest");

    public static void main(String[] args) {
        rows();
        writes();
        pastes();
        pastesRefused();
        thefts();
        theftsOfOtherLengths();
        judges();
        DUE.finish();
    }

    private static void rows() {
        TurningMarket x = new TurningMarket();
        for (int width = 0; width < 4; width++) {
            DUE.due("row(" + width + ", " + width + ", 60)", x.row(width, width, 60), 0);
            DUE.due("its last number", x.write(width, 59, 1), 0);
            DUE.due("beyond it", x.write(width, 60, 1), -7);
        }
        DUE.due("row(-1, 0, 1)", x.row(-1, 0, 1), -2);
        DUE.due("row(4, 0, 1)", x.row(4, 0, 1), -2);
        DUE.due("row(0, -1, 1)", x.row(0, -1, 1), -2);
        DUE.due("row(0, 4, 1)", x.row(0, 4, 1), -2);
        DUE.due("row(0, 0, 61)", x.row(0, 0, 61), -2);
        DUE.due("row(0, 4, -1)", x.row(0, 4, -1), -2);
        DUE.due("row(0, 0, MAX)", x.row(0, 0, Integer.MAX_VALUE), -2);
        DUE.due("row(0, 0, -1)", x.row(0, 0, -1), -3);
        DUE.due("row(0, 0, MIN)", x.row(0, 0, Integer.MIN_VALUE), -3);
        DUE.due("the slot stays", x.write(0, 59, 1), 0);
        DUE.due("row(0, 0, 0)", x.row(0, 0, 0), 0);
        DUE.due("write(0, 0, 1)", x.write(0, 0, 1), -7);
        DUE.due("count(8)", x.count(8), 4);
        // a row in place of another one is all 0
        TurningMarket y = Due.loaded(Markets.SMALL);
        Due.fill(y, 0, 0, 10, 4, 7);
        DUE.due("its prices", y.judge(0), 3);
        y.row(0, 0, 3);
        DUE.due("all 0", y.judge(0), 0);
        y.offer(0, 0);
        DUE.due("all 0, and so is the first price", y.judge(0), 1);
    }

    private static void writes() {
        TurningMarket x = Due.loaded(Markets.SMALL);
        DUE.due("write(-1, 0, 0)", x.write(-1, 0, 0), -2);
        DUE.due("write(4, 0, 0)", x.write(4, 0, 0), -2);
        DUE.due("write(2, 0, 0)", x.write(2, 0, 0), -6);
        DUE.due("write(2, -1, 0)", x.write(2, -1, 0), -6);
        x.row(2, 0, 2);
        DUE.due("write(2, -1, 0)", x.write(2, -1, 0), -7);
        DUE.due("write(2, 2, 0)", x.write(2, 2, 0), -7);
        DUE.due("write(2, MIN, 0)", x.write(2, Integer.MIN_VALUE, 0), -7);
        DUE.due("write(2, MAX, 0)", x.write(2, Integer.MAX_VALUE, 0), -7);
        // the first price is 10: what is cut to 10, and what is not
        cut(x, 0, 0xff0aL, 1);
        cut(x, 0, 0x10bL, 0);
        cut(x, 1, 0xff000aL, 1);
        cut(x, 1, 0x10aL, 0);
        cut(x, 2, 0xff0000000aL, 1);
        cut(x, 2, 0x1000aL, 0);
        cut(x, 3, 10L, 1);
        cut(x, 3, 0x10000000aL, 0);
    }

    private static void cut(TurningMarket x, int width, long v, int right) {
        Due.fill(x, 3, width, v);
        DUE.due("number " + v + " of width " + width, x.judge(3), right);
    }

    private static void pastes() {
        TurningMarket x = Due.loaded(Markets.SMALL);
        Due.fill(x, 0, 1, 0, 10, 4, 7);
        x.row(1, 1, 3);
        DUE.due("paste(0, 1, 1, 0, 3)", x.paste(0, 1, 1, 0, 3), 0);
        DUE.due("pasted", x.judge(1), 3);
        DUE.due("paste(0, 0, 0, 1, 3)", x.paste(0, 0, 0, 1, 3), 0);
        // 0 0 10 4 now
        DUE.due("as they were", x.paste(0, 2, 0, 0, 2), 0);
        DUE.due("as they were: 10 4 10 4", x.judge(0), 2);
        Due.fill(x, 0, 1, 10, 4, 4, 7);
        DUE.due("onto itself, back by one", x.paste(0, 2, 0, 1, 2), 0);
        DUE.due("10 4 7 7", x.judge(0), 3);
        Due.fill(x, 0, 1, 0, 10, 4, 7, 9);
        DUE.due("paste(0, 1, 0, 0, 4)", x.paste(0, 1, 0, 0, 4), 0);
        DUE.due("10 4 7 9 9", x.judge(0), 3);
        DUE.due("nothing at the end", x.paste(0, 5, 1, 3, 0), 0);
        DUE.due("of no numbers", x.row(2, 1, 0), 0);
        DUE.due("nothing to nothing", x.paste(2, 0, 2, 0, 0), 0);
    }

    private static void pastesRefused() {
        TurningMarket x = Due.loaded(Markets.SMALL);
        Due.fill(x, 0, 1, 10, 4, 7);
        Due.fill(x, 1, 1, 10, 4);
        Due.fill(x, 2, 2, 10, 4, 7);
        int big = Integer.MAX_VALUE;
        int[][] beyond = {{0, 0, 1, 0, 3}, {1, 0, 0, 0, 3}, {0, 2, 1, 0, 2}, {0, 0, 1, 1, 2}, {0, 4, 1, 0, 0}, {0, 0, 1, 3, 0},
            {0, -1, 1, 0, 1}, {0, 0, 1, -1, 1}, {0, 0, 1, 0, -1}, {0, big, 1, 0, big}, {0, 1, 1, 0, big}, {0, 0, 1, big, 1},
            {0, Integer.MIN_VALUE, 1, 0, 0}, {0, 0, 1, 0, Integer.MIN_VALUE}};
        for (int[] p : beyond) {
            DUE.due("paste beyond: " + p[1] + ", " + p[3] + ", " + p[4], x.paste(p[0], p[1], p[2], p[3], p[4]), -7);
        }
        DUE.due("nothing has happened", x.judge(0), 3);
        DUE.due("nothing has happened", x.judge(1), 2);
        DUE.due("not of one width", x.paste(0, 0, 2, 0, 1), -8);
        DUE.due("not of one width, and beyond", x.paste(0, 9, 2, 0, 1), -8);
        DUE.due("one has nothing", x.paste(0, 0, 3, 0, 1), -6);
        DUE.due("one has nothing", x.paste(3, 0, 0, 0, 1), -6);
        DUE.due("one has nothing, and beyond", x.paste(3, 0, 3, -1, 99), -6);
        DUE.due("no such slot", x.paste(-1, 0, 0, 0, 1), -2);
        DUE.due("no such slot", x.paste(0, 0, 4, 0, 1), -2);
        DUE.due("no such slot, and nothing", x.paste(3, 0, 4, 0, 1), -2);
    }

    private static void theft(String what, TurningMarket x, int slot, int robbed, int first, int missing) {
        DUE.due(what + ": theft(" + slot + ", 0)", x.theft(slot, 0), robbed);
        DUE.due(what + ": theft(" + slot + ", 1)", x.theft(slot, 1), first);
        DUE.due(what + ": theft(" + slot + ", 2)", x.theft(slot, 2), missing);
    }

    /** At the end of the hour 2, 1 and 0 pieces should be left. */
    private static void thefts() {
        TurningMarket x = Due.loaded(Markets.SMALL);
        Due.fill(x, 0, 0, 2, 1, 0);
        theft("none", x, 0, 0, -1, 0);
        Due.fill(x, 0, 3, 3, 20, 20);
        theft("more than should be", x, 0, 0, -1, 0);
        Due.fill(x, 0, 1, 2, 0, 1);
        theft("one", x, 0, 1, 1, 1);
        Due.fill(x, 0, 2, 0, 0, 0);
        theft("all", x, 0, 2, 0, 3);
        x.moves(0, 0);
        // stall 0 sells to buyer 0 in minutes 0 and 4, so it has 1; stall 2 sells to nobody behind it
        DUE.due("has(0, 5)", x.has(0, 5), 2);
        theft("moved", x, 0, 2, 0, 3);
        Due.fill(x, 1, 0, 2, 1, 21);
        theft("above 20", x, 1, -2, -2, -2);
        Due.fill(x, 1, 0, -1, 1, 0);
        theft("below 0", x, 1, -2, -2, -2);
        theft("nothing", x, 2, -6, -6, -6);
        theft("no such slot", x, 4, -2, -2, -2);
        theft("no such slot", x, -1, -2, -2, -2);
        DUE.due("theft(0, 3)", x.theft(0, 3), -2);
        DUE.due("theft(0, -1)", x.theft(0, -1), -2);
        DUE.due("theft(2, 3)", x.theft(2, 3), -2);
        TurningMarket last = Due.loaded(Markets.still(2, "stall 0 at 0 sells 0 pieces 2 price 1 fixed;"
            + "buyer at 0 coins 9 habit eager; wants 0 0 pieces 2 limit 1;"));
        last.row(0, 0, 1);
        theft("sold in the last minute", last, 0, 0, -1, 0);
        TurningMarket none = new TurningMarket();
        none.row(0, 0, 3);
        theft("no market", none, 0, -2, -2, -2);
        TurningMarket bare = Due.loaded(Markets.BARE);
        theft("nothing", bare, 0, -6, -6, -6);
        bare.row(0, 3, 0);
        theft("no stalls", bare, 0, 0, -1, 0);
    }

    /** A number of each stall: neither fewer than stalls nor more. */
    private static void theftsOfOtherLengths() {
        TurningMarket x = Due.loaded(Markets.SMALL);
        for (int n = 0; n <= 60; n++) {
            x.row(0, n % 4, n);
            int[] due = n == 3 ? new int[] {2, 0, 3} : new int[] {-7, -7, -7};
            theft(n + " numbers", x, 0, due[0], due[1], due[2]);
        }
        Due.fill(x, 0, 0, 2, 1);
        theft("one too few", x, 0, -7, -7, -7);
        Due.fill(x, 0, 0, 2, 1, 0, 0);
        theft("one too many", x, 0, -7, -7, -7);
        Due.fill(x, 0, 0, 2, 21);
        theft("too few, and one above 20", x, 0, -7, -7, -7);
        Due.fill(x, 0, 0, 2, 1, 0, 21);
        theft("too many, and one above 20", x, 0, -7, -7, -7);
        Due.fill(x, 0, 0, 2, -1, 0, 0);
        theft("too many, and one below 0", x, 0, -7, -7, -7);
        DUE.due("too many, and no such what", x.theft(0, 3), -2);
        TurningMarket bare = Due.loaded(Markets.BARE);
        bare.row(0, 0, 1);
        theft("no stalls, one number", bare, 0, -7, -7, -7);
        TurningMarket none = new TurningMarket();
        none.row(0, 0, 0);
        theft("no market, as many numbers as stalls", none, 0, -2, -2, -2);
        // as many as the market has now, not as one had that it stands in place of
        TurningMarket other = Due.loaded(Markets.SMALL);
        other.keep(0);
        Due.fill(other, 0, 0, 2, 1, 0);
        theft("three stalls", other, 0, 0, -1, 0);
        Due.load(other, Markets.still(2, "stall 0 at 0 sells 0 pieces 2 price 1 fixed;"));
        theft("one stall, three numbers", other, 0, -7, -7, -7);
        other.back(0);
        theft("three stalls again", other, 0, 0, -1, 0);
    }

    private static void judges() {
        TurningMarket x = Due.loaded(Markets.SMALL);
        Due.fill(x, 0, 0, 10, 4, 7);
        DUE.due("all right", x.judge(0), 3);
        Due.fill(x, 0, 0, 10, 4, 7, 0);
        DUE.due("beyond the sales", x.judge(0), 3);
        Due.fill(x, 0, 0, 10, 5, 7);
        DUE.due("the second is not so", x.judge(0), 1);
        Due.fill(x, 0, 0, 9, 4, 7);
        DUE.due("the first is not so", x.judge(0), 0);
        Due.fill(x, 0, 0, 10, 4);
        DUE.due("fewer than sales", x.judge(0), 2);
        x.row(0, 0, 0);
        DUE.due("of no numbers", x.judge(0), 0);
        DUE.due("judge(1)", x.judge(1), -6);
        DUE.due("judge(-1)", x.judge(-1), -2);
        DUE.due("judge(4)", x.judge(4), -2);
        x.offer(0, 0);
        DUE.due("of no numbers, the first price is 0", x.judge(0), 0);
        TurningMarket none = new TurningMarket();
        none.row(0, 0, 1);
        DUE.due("no market", none.judge(0), -2);
        TurningMarket bare = Due.loaded(Markets.BARE);
        bare.row(0, 0, 5);
        DUE.due("no sales", bare.judge(0), 0);
    }
}
