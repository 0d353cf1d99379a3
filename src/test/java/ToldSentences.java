/** The sentences of promises 6 to 8 and 40, and how term I numbers what is told. */
final class ToldSentences extends SentenceGroup {
    /** As much as a market may have of each, all of it different. */
    static final String FULL = "market places 12 minutes 60;\n"
        + "ring turns 1 east; ring turns 7 west; ring turns 0 east;\n"
        + "stall 0 at 0 sells 0 pieces 20 price 30 fixed;\n"
        + "stall 1 at 11 sells 1 pieces 9 price 99 falls 20;\n"
        + "stall 2 at 5 sells 2 pieces 0 price 0 learns 1;\n"
        + "stall 0 at 10 sells 5 pieces 1 price 7 learns 20;\n"
        + "stall 1 at 3 sells 0 pieces 4 price 12 falls 1;\n"
        + "stall 2 at 2 sells 3 pieces 3 price 40 fixed;\n"
        + "stall 0 at 6 sells 4 pieces 5 price 9 fixed;\n"
        + "stall 1 at 7 sells 2 pieces 19 price 50 learns 5;\n"
        + "buyer at 0 coins 999 habit eager; buyer at 11 coins 0 habit thrifty; buyer at 4 coins 50 habit slow;\n"
        + "buyer at 5 coins 60 habit eager; buyer at 2 coins 70 habit slow; buyer at 1 coins 998 habit thrifty;\n"
        + "wants 5 4 pieces 2 limit 98; wants 0 5 pieces 1 limit 99; wants 2 0 pieces 9 limit 0; wants 0 0 pieces 3 limit 40;\n"
        + "wants 1 1 pieces 8 limit 1; wants 0 2 pieces 4 limit 2; wants 2 3 pieces 5 limit 41;\n"
        + "stuck 0 from 0 to 59; stuck 1 from 59 to 59; stuck 2 from 0 to 0; stuck 1 from 3 to 7;\n";

    static final int[][] STALLS = {{0, 0, 0, 20, 30, 0, 0}, {1, 11, 1, 9, 99, 1, 20}, {2, 5, 2, 0, 0, 2, 1}, {0, 10, 5, 1, 7, 2, 20},
        {1, 3, 0, 4, 12, 1, 1}, {2, 2, 3, 3, 40, 0, 0}, {0, 6, 4, 5, 9, 0, 0}, {1, 7, 2, 19, 50, 2, 5}};
    static final int[][] BUYERS = {{0, 999, 0, 3}, {11, 0, 1, 1}, {4, 50, 2, 2}, {5, 60, 0, 0}, {2, 70, 2, 0}, {1, 998, 1, 1}};
    /** Of each buyer the wants in their order. */
    static final int[][][] WANTS = {{{5, 1, 99}, {0, 3, 40}, {2, 4, 2}}, {{1, 8, 1}}, {{0, 9, 0}, {3, 5, 41}}, {}, {}, {{4, 2, 98}}};

    ToldSentences(Sentences sentences) {
        super(sentences);
    }

    @Override
    void all() {
        numbered();
        stall();
        buyer();
        want();
        count();
    }

    private void numbered() {
        s.says("Term I", "RINGS 0 .. 2, STALLS 0 .. 7, BUYERS 0 .. 5 are numbered as they stand,");
        TurningMarket x = Due.loaded(FULL);
        s.due("RINGS", x.count(2), 3);
        s.due("STALLS", x.count(3), 8);
        s.due("BUYERS", x.count(4), 6);
        for (int i = 0; i < 8; i++) {
            s.due("SPOT of STALL " + i, x.stall(i, 1), STALLS[i][1]);
        }
        for (int b = 0; b < 6; b++) {
            s.due("PLACE of BUYER " + b, x.buyer(b, 0), BUYERS[b][0]);
        }
        int[] turns = {1, 7, 0};
        for (int r = 0; r < 3; r++) {
            s.due("turns of RING " + r, x.turn(r, turns[r]), turns[r]);
        }
        s.says("Term I", "WANTS (three of one BUYER), stuck (four) too.");
        TurningMarket y = Due.loaded(FULL);
        for (int i = 0; i < 3; i++) {
            s.due("GOOD of WANT " + i, y.want(0, i, 0), WANTS[0][i][0]);
        }
        s.due("WANT 3", y.want(0, 3, 0), -2);
        s.due("MINUTES told by four", y.count(7), 60 + 1 + 1 + 5);
    }

    private void stall() {
        TurningMarket x = Due.loaded(FULL);
        String[] sentences = {"Of a STALL, what 0: RING,", "1: SPOT,", "2: GOOD,", "3: pieces told,", "4: price told,",
            "5: KIND (0 fixed, 1 falling, 2 learning),", "6: by how much (0 of fixed)."};
        for (int what = 0; what < 7; what++) {
            s.says("Promise 6", sentences[what]);
            for (int i = 0; i < 8; i++) {
                s.due("stall(" + i + ", " + what + ")", x.stall(i, what), STALLS[i][what]);
            }
        }
        s.says("Promise 6", "-2: there are none such.");
        s.edges("stall", g -> x.stall(g[0], g[1]), -2, of(0, 0), to(0, 7), to(0, 6));
        s.edges("stall", g -> x.stall(g[0], g[1]), -2, of(7, 6), to(0, 7), to(0, 6));
        TurningMarket y = Due.loaded(Markets.SMALL);
        s.edges("stall of three", g -> y.stall(g[0], g[1]), -2, of(2, 6), to(0, 2), to(0, 6));
        s.due("stall(0, 0) without STALLS", Due.loaded(Markets.BARE).stall(0, 0), -2);
    }

    private void buyer() {
        TurningMarket x = Due.loaded(FULL);
        String[] sentences = {"Of a BUYER, what 0: PLACE,", "1: coins told,", "2: habit (0 eager, 1 thrifty, 2 slow),",
            "3: how many WANTS he has."};
        for (int what = 0; what < 4; what++) {
            s.says("Promise 7", sentences[what]);
            for (int b = 0; b < 6; b++) {
                s.due("buyer(" + b + ", " + what + ")", x.buyer(b, what), BUYERS[b][what]);
            }
        }
        s.says("Promise 7", "-2: there are none such.");
        s.edges("buyer", g -> x.buyer(g[0], g[1]), -2, of(0, 0), to(0, 5), to(0, 3));
        s.edges("buyer", g -> x.buyer(g[0], g[1]), -2, of(5, 3), to(0, 5), to(0, 3));
        TurningMarket y = Due.loaded(Markets.SMALL);
        s.edges("buyer of two", g -> y.buyer(g[0], g[1]), -2, of(1, 3), to(0, 1), to(0, 3));
        s.due("buyer(0, 0) without BUYERS", Due.loaded(Markets.BARE).buyer(0, 0), -2);
    }

    private void want() {
        TurningMarket x = Due.loaded(FULL);
        String[] sentences = {"Of WANT i of a BUYER, what 0: GOOD,", "1: pieces,", "2: limit."};
        for (int what = 0; what < 3; what++) {
            s.says("Promise 8", sentences[what]);
            for (int b = 0; b < 6; b++) {
                for (int i = 0; i < WANTS[b].length; i++) {
                    s.due("want(" + b + ", " + i + ", " + what + ")", x.want(b, i, what), WANTS[b][i][what]);
                }
            }
        }
        s.says("Promise 8", "-2: there are none such.");
        for (int b = 0; b < 6; b++) {
            s.due("the WANT behind the last of BUYER " + b, x.want(b, WANTS[b].length, 0), -2);
        }
        s.edges("want", g -> x.want(g[0], g[1], g[2]), -2, of(0, 0, 0), to(0, 2), to(0, 2), to(0, 2));
        s.edges("want", g -> x.want(g[0], g[1], g[2]), -2, of(5, 0, 2), to(5, 5), to(0, 0), to(0, 2));
        TurningMarket y = Due.loaded(Markets.SMALL);
        s.edges("want of one", g -> y.want(g[0], g[1], g[2]), -2, of(1, 0, 0), to(0, 1), to(0, 0), to(0, 2));
    }

    private void count() {
        TurningMarket full = Due.loaded(FULL);
        TurningMarket small = Due.loaded(Markets.SMALL + "stuck 1 from 0 to 5; stuck 1 from 2 to 3;");
        TurningMarket bare = Due.loaded(Markets.BARE);
        String[] sentences = {"0 PLACES,", "1 MINUTES,", "2 RINGS,", "3 STALLS,", "4 BUYERS,", "5 LINES,", "6 bytes of the TAPE,",
            "7 MINUTES in which RINGS are told to be stuck (each of a RING once), of all RINGS together,", "8 SLOTS that have a row."};
        int[][] due = {{12, 4, 3}, {60, 6, 4}, {3, 2, 0}, {8, 3, 0}, {6, 2, 0}, {29, 12, 1}, {0, 0, 0}, {67, 6, 0}, {0, 0, 0}};
        for (int what = 0; what < 9; what++) {
            s.says("Promise 40", sentences[what]);
            s.due("count(" + what + ") of all", full.count(what), due[what][0]);
            s.due("count(" + what + ") of some", small.count(what), due[what][1]);
            s.due("count(" + what + ") of the least", bare.count(what), due[what][2]);
            countMore(what);
        }
        s.says("Promise 40", "NONE for others.");
        int[] others = {-1, 9, Integer.MIN_VALUE, Integer.MAX_VALUE};
        for (int what : others) {
            s.due("count(" + what + ")", full.count(what), -1);
            s.due("count(" + what + ") without a MARKET", new TurningMarket().count(what), -1);
        }
    }

    private void countMore(int what) {
        TurningMarket x = Due.loaded(Markets.SMALL);
        if (what == 6) {
            x.feed(0, 0, 0, 0, 0);
            s.due("count(6) behind feed", x.count(6), 20);
            x.end(7);
            s.due("count(6) behind end", x.count(6), 7);
            x.market();
            s.due("count(6) behind market", x.count(6), 0);
        }
        if (what == 7) {
            x.harm(0, 0);
            x.drawn(0, 100);
            s.due("count(7) of RINGS that are stuck in a trial alone", x.count(7), 0);
            String rings = "market places 2 minutes 60; ring turns 0 east; ring turns 1 west; ring turns 60 east;";
            TurningMarket y = Due.loaded(rings + "stuck 0 from 0 to 59; stuck 1 from 0 to 59; stuck 2 from 0 to 59; stuck 1 from 7 to 59;");
            s.due("count(7), all MINUTES of all RINGS", y.count(7), 180);
            TurningMarket z = Due.loaded(rings
                + "stuck 0 from 0 to 31; stuck 0 from 31 to 32; stuck 0 from 33 to 33; stuck 1 from 31 to 33;");
            s.due("count(7), some of them twice", z.count(7), 34 + 3);
        }
        if (what == 8) {
            for (int slot = 0; slot < 4; slot++) {
                x.row(slot, 0, slot);
                x.row(slot, 1, 0);
                s.due("count(8) behind row(" + slot + ")", x.count(8), slot + 1);
            }
            x.row(4, 0, 0);
            x.row(0, 0, -1);
            s.due("count(8) behind rows that are refused", x.count(8), 4);
        }
    }
}
