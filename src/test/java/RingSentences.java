/** The sentences of term II that tell how rings turn, and of promises 9 to 13, 32, 35 and 36. */
final class RingSentences extends SentenceGroup {
    /** In SMALL stall 0 comes to places 0 1 2 3 0 1, stall 1 to 3 3 2 2 1 1, stall 2 to 2 3 0 1 2 3. */
    private static final int[][] PLACES = {{0, 1, 2, 3, 0, 1}, {3, 3, 2, 2, 1, 1}, {2, 3, 0, 1, 2, 3}};

    RingSentences(Sentences sentences) {
        super(sentences);
    }

    @Override
    void all() {
        minutes();
        ways();
        turnings();
        stuck();
        spots();
        at();
        comes();
        there();
        face();
        often();
        passed();
        turn();
        again();
    }

    private void goes(String what, TurningMarket x, int stall, int... places) {
        for (int m = 0; m < places.length; m++) {
            s.due(what + ": at(" + stall + ", " + m + ")", x.at(stall, m), places[m]);
        }
        s.due(what + ": at(" + stall + ", behind the last)", x.at(stall, places.length), -2);
    }

    private static TurningMarket ring(int places, int minutes, String ring, int spot, String stuck) {
        return Due.loaded("market places " + places + " minutes " + minutes + "; ring turns " + ring + "; stall 0 at " + spot
            + FREE + stuck);
    }

    private void minutes() {
        s.says("Term II", "MINUTES 0 .. minutes less 1.");
        int[] counts = {1, 2, 6, 59, 60};
        for (int minutes : counts) {
            TurningMarket x = ring(4, minutes, "1 east", 0, "buyer at 0 coins 5 habit slow;");
            s.due("at(0, -1) of " + minutes, x.at(0, -1), -2);
            s.due("at(0, 0) of " + minutes, x.at(0, 0), 0);
            s.due("at(0, the last) of " + minutes, x.at(0, minutes - 1), (minutes - 1) % 4);
            s.due("at(0, behind the last) of " + minutes, x.at(0, minutes), -2);
            s.due("asks(0, the last) of " + minutes, x.asks(0, minutes - 1), 0);
            s.due("coins(0, the last) of " + minutes, x.coins(0, minutes - 1), 5);
            s.due("coins(0, behind the last) of " + minutes, x.coins(0, minutes), -2);
        }
    }

    private void ways() {
        s.says("Term II", "A RING turns by one (east: to the next PLACE, west: to the one ahead, round)");
        goes("east", ring(3, 8, "1 east", 1, ""), 0, 1, 2, 0, 1, 2, 0, 1, 2);
        goes("west", ring(3, 8, "1 west", 1, ""), 0, 1, 0, 2, 1, 0, 2, 1, 0);
        goes("east from the last", ring(12, 3, "1 east", 11, ""), 0, 11, 0, 1);
        goes("west from the first", ring(12, 3, "1 west", 0, ""), 0, 0, 11, 10);
        goes("two places, east", ring(2, 4, "1 east", 1, ""), 0, 1, 0, 1, 0);
        goes("two places, west", ring(2, 4, "1 west", 1, ""), 0, 1, 0, 1, 0);
        TurningMarket west = ring(2, 60, "1 west", 0, "");
        s.due("59 times west, of two places", west.at(0, 59), 1);
        TurningMarket five = ring(5, 60, "1 west", 2, "");
        s.due("59 times west, of five places", five.at(0, 59), 3);
    }

    private void turnings() {
        s.says("Term II", "as each MINUTE begins that is behind so many in which it was not stuck since its last turn (at first since the beginning):");
        goes("each minute", ring(12, 4, "1 east", 0, ""), 0, 0, 1, 2, 3);
        goes("each second", ring(12, 7, "2 east", 0, ""), 0, 0, 0, 1, 1, 2, 2, 3);
        goes("each third", ring(12, 8, "3 west", 5, ""), 0, 5, 5, 5, 4, 4, 4, 3, 3);
        for (int turns = 1; turns <= 60; turns++) {
            TurningMarket x = ring(12, 60, turns + " east", 0, "");
            for (int m = 0; m < 60; m++) {
                s.due("at(0, " + m + ") of turns " + turns, x.at(0, m), m / turns % 12);
            }
        }
        goes("stuck behind its first turn", ring(12, 11, "3 east", 0, "stuck 0 from 4 to 4;"), 0, 0, 0, 0, 1, 1, 1, 1, 2, 2, 2, 3);
        goes("stuck ahead of its first turn", ring(12, 8, "3 east", 0, "stuck 0 from 0 to 1;"), 0, 0, 0, 0, 0, 0, 1, 1, 1);
    }

    private void stuck() {
        s.says("Term II", "in a MINUTE in which it is stuck it does not turn and none passes for it.");
        goes("stuck when it would turn", ring(12, 9, "2 east", 0, "stuck 0 from 2 to 4;"), 0, 0, 0, 0, 0, 0, 1, 1, 2, 2);
        goes("stuck ahead of when it would turn", ring(12, 7, "2 east", 0, "stuck 0 from 1 to 1;"), 0, 0, 0, 0, 1, 1, 2, 2);
        goes("stuck as it has turned", ring(12, 8, "2 east", 0, "stuck 0 from 3 to 3;"), 0, 0, 0, 1, 1, 1, 2, 2, 3);
        goes("stuck in the first", ring(12, 4, "1 east", 0, "stuck 0 from 0 to 0;"), 0, 0, 0, 1, 2);
        goes("stuck in the last", ring(12, 4, "1 east", 0, "stuck 0 from 3 to 3;"), 0, 0, 1, 2, 2);
        goes("stuck in all", ring(12, 4, "1 east", 5, "stuck 0 from 0 to 3;"), 0, 5, 5, 5, 5);
        goes("stuck twice in one", ring(12, 6, "1 east", 0, "stuck 0 from 1 to 2; stuck 0 from 2 to 3;"), 0, 0, 0, 0, 0, 1, 2);
        goes("stuck again", ring(12, 6, "1 east", 0, "stuck 0 from 1 to 1; stuck 0 from 3 to 3;"), 0, 0, 0, 1, 1, 2, 3);
        TurningMarket two = Due.loaded("market places 12 minutes 4; ring turns 1 east; ring turns 1 east; stall 0 at 0" + FREE
            + "stall 1 at 0" + FREE + "stuck 1 from 1 to 2;");
        goes("another ring is stuck", two, 0, 0, 1, 2, 3);
        goes("the one of two is stuck", two, 1, 0, 0, 0, 1);
        TurningMarket late = ring(12, 60, "1 east", 0, "stuck 0 from 31 to 32;");
        s.due("at(0, 30)", late.at(0, 30), 6);
        s.due("at(0, 32)", late.at(0, 32), 6);
        s.due("at(0, 33)", late.at(0, 33), 7);
        s.due("at(0, 59)", late.at(0, 59), 9);
    }

    private void spots() {
        s.says("Term II", "A STALL is ahead of the PLACE that is its SPOT, turned so.");
        TurningMarket x = Due.loaded("market places 4 minutes 3; ring turns 1 east; ring turns 1 west; stall 0 at 3" + FREE
            + "stall 0 at 1" + FREE
            + "stall 1 at 3" + FREE + "stall 0 at 3" + FREE);
        goes("spot 3, east", x, 0, 3, 0, 1);
        goes("spot 1, east", x, 1, 1, 2, 3);
        goes("spot 3, west", x, 2, 3, 2, 1);
        goes("spot 3, of another stall", x, 3, 3, 0, 1);
        s.due("the SPOT stays as told", x.stall(0, 1), 3);
    }

    private void at() {
        s.says("Promise 9", "The PLACE ahead of which a STALL is in a MINUTE.");
        TurningMarket x = Due.loaded(Markets.SMALL);
        for (int i = 0; i < 3; i++) {
            goes("small", x, i, PLACES[i]);
        }
        s.says("Promise 9", "-2: there are none such.");
        s.edges("at", g -> x.at(g[0], g[1]), -2, of(2, 5), to(0, 2), to(0, 5));
        TurningMarket full = Due.loaded(ToldSentences.FULL);
        s.edges("at", g -> full.at(g[0], g[1]), -2, of(0, 0), to(0, 7), to(0, 59));
    }

    private void comes() {
        s.says("Promise 10", "The first MINUTE from one on in which a STALL is ahead of a PLACE;");
        TurningMarket x = Due.loaded(Markets.SMALL);
        for (int i = 0; i < 3; i++) {
            for (int place = 0; place < 4; place++) {
                for (int from = 0; from < 6; from++) {
                    int due = -1;
                    for (int m = 5; m >= from; m--) {
                        due = PLACES[i][m] == place ? m : due;
                    }
                    s.due("comes(" + i + ", " + place + ", " + from + ")", x.comes(i, place, from), due);
                }
            }
        }
        s.due("it is there in that very one", x.comes(0, 0, 4), 4);
        s.due("it has been there ahead of it", x.comes(0, 0, 1), 4);
        s.due("it comes in the last one", x.comes(0, 1, 2), 5);
        s.says("Promise 10", "NONE: none.");
        s.due("it has been there in the one ahead", x.comes(0, 0, 5), -1);
        s.due("never in the HOUR", x.comes(1, 0, 0), -1);
        s.says("Promise 10", "-2: there are none such.");
        s.edges("comes", g -> x.comes(g[0], g[1], g[2]), -2, of(2, 3, 5), to(0, 2), to(0, 3), to(0, 5));
        TurningMarket full = Due.loaded(ToldSentences.FULL);
        s.edges("comes", g -> full.comes(g[0], g[1], g[2]), -2, of(0, 0, 0), to(0, 7), to(0, 11), to(0, 59));
    }

    private void there() {
        TurningMarket x = Due.loaded("market places 4 minutes 3; ring turns 1 east; ring turns 1 east; ring turns 0 west; stall 1 at 0" + FREE
            + "stall 0 at 1" + FREE + "stall 1 at 2" + FREE + "stall 0 at 1" + FREE + "stall 1 at 2" + FREE);
        s.says("Promise 11", "The STALL on a RING that is ahead of a PLACE in a MINUTE");
        s.due("there(1, 0, 0)", x.there(1, 0, 0), 0);
        s.due("there(1, 1, 1)", x.there(1, 1, 1), 0);
        s.due("there(1, 2, 2)", x.there(1, 2, 2), 0);
        s.due("another RING's at the same PLACE", x.there(0, 3, 2), 1);
        s.says("Promise 11", "(the least of several);");
        s.due("there(0, 1, 0)", x.there(0, 1, 0), 1);
        s.due("there(1, 2, 0)", x.there(1, 2, 0), 2);
        s.due("there(1, 0, 2)", x.there(1, 0, 2), 2);
        s.says("Promise 11", "NONE: none is.");
        s.due("a STALL of another RING is", x.there(0, 0, 0), -1);
        s.due("it was a MINUTE ahead", x.there(0, 1, 1), -1);
        s.due("a RING without STALLS", x.there(2, 0, 0), -1);
        s.says("Promise 11", "-2: there are none such.");
        s.edges("there", g -> x.there(g[0], g[1], g[2]), -2, of(2, 3, 2), to(0, 2), to(0, 3), to(0, 2));
        TurningMarket small = Due.loaded(Markets.SMALL);
        s.edges("there", g -> small.there(g[0], g[1], g[2]), -2, of(0, 0, 0), to(0, 1), to(0, 3), to(0, 5));
    }

    private void face() {
        s.says("Promise 12", "FACE: the first MINUTE from one on in which two STALLS are ahead of one PLACE;");
        TurningMarket x = Due.loaded(Markets.SMALL);
        // stalls 0 and 1 are in minutes 2 and 5, stalls 1 and 2 in minute 1
        int[] due = {2, 2, 2, 5, 5, 5};
        for (int from = 0; from < 6; from++) {
            s.due("face(0, 1, " + from + ")", x.face(0, 1, from), due[from]);
            s.due("face(1, 0, " + from + ")", x.face(1, 0, from), due[from]);
        }
        s.due("face(2, 1, 1)", x.face(2, 1, 1), 1);
        TurningMarket one = Due.loaded("market places 2 minutes 1; ring turns 1 east; stall 0 at 0" + FREE + "stall 0 at 0" + FREE);
        s.due("two of one RING, in the first MINUTE", one.face(0, 1, 0), 0);
        s.says("Promise 12", "NONE: none.");
        s.due("face(2, 1, 2)", x.face(2, 1, 2), -1);
        s.due("face(0, 2, 0)", x.face(0, 2, 0), -1);
        s.says("Promise 12", "-2: there are none such, one twice.");
        s.edges("face", g -> x.face(g[0], g[1], g[2]), -2, of(1, 0, 5), to(1, 2), to(0, 0), to(0, 5));
        s.edges("face", g -> x.face(g[0], g[1], g[2]), -2, of(0, 1, 0), to(0, 0), to(1, 2), to(0, 5));
        for (int i = 0; i < 3; i++) {
            s.due("face of one twice", x.face(i, i, 0), -2);
        }
        s.due("face of one twice that there is not", x.face(3, 3, 0), -2);
    }

    private void often() {
        TurningMarket x = Due.loaded(Markets.SMALL);
        s.says("Promise 13", "In how many MINUTES they are.");
        s.due("often(0, 1)", x.often(0, 1), 2);
        s.due("often(1, 0)", x.often(1, 0), 2);
        s.due("often(1, 2)", x.often(1, 2), 1);
        s.due("often(0, 2)", x.often(0, 2), 0);
        TurningMarket all = Due.loaded("market places 2 minutes 60; ring turns 1 east; ring turns 1 west; stall 0 at 0" + FREE
            + "stall 0 at 0" + FREE
            + "stall 1 at 0" + FREE);
        s.due("in all of one RING", all.often(0, 1), 60);
        s.due("in all of two RINGS", all.often(0, 2), 60);
        TurningMarket ends = Due.loaded("market places 4 minutes 5; ring turns 1 east; ring turns 0 west; stall 0 at 0" + FREE
            + "stall 1 at 0" + FREE);
        s.due("in the first and in the last", ends.often(0, 1), 2);
        s.says("Promise 13", "-2 likewise.");
        s.edges("often", g -> x.often(g[0], g[1]), -2, of(1, 0), to(1, 2), to(0, 0));
        s.edges("often", g -> x.often(g[0], g[1]), -2, of(0, 1), to(0, 0), to(1, 2));
        for (int i = 0; i < 4; i++) {
            s.due("often of one twice", x.often(i, i), -2);
        }
    }

    private void passed() {
        s.says("Promise 32", "BUYERS ahead of whom a STALL is in MINUTES from one to another one (no less), as bits.");
        // at places 0 1 2 3 0 1
        String buyers = "buyer at 1 coins 0 habit slow; buyer at 3 coins 0 habit slow; buyer at 1 coins 0 habit slow;"
            + "buyer at 0 coins 0 habit slow; buyer at 2 coins 0 habit slow; buyer at 0 coins 0 habit slow;";
        TurningMarket x = Due.loaded("market places 4 minutes 6; ring turns 1 east; stall 0 at 0" + FREE + buyers);
        int[] bits = {40, 5, 16, 2, 40, 5};
        for (int from = 0; from < 6; from++) {
            int due = 0;
            for (int to = from; to < 6; to++) {
                due |= bits[to];
                s.due("passed(0, " + from + ", " + to + ")", x.passed(0, from, to), due);
            }
        }
        s.due("all of them", x.passed(0, 0, 5), 63);
        TurningMarket small = Due.loaded(Markets.SMALL);
        s.due("nobody in them", small.passed(0, 3, 4), 0);
        s.due("who wants none of its GOOD", small.passed(1, 0, 5), 3);
        s.says("Promise 32", "-2: there are none such.");
        s.edges("passed", g -> small.passed(g[0], g[1], g[2]), -2, of(2, 3, 3), to(0, 2), to(0, 3), to(3, 5));
        s.edges("passed", g -> small.passed(g[0], g[1], g[2]), -2, of(0, 5, 5), to(0, 2), to(0, 5), to(5, 5));
        s.edges("passed", g -> small.passed(g[0], g[1], g[2]), -2, of(1, 0, 0), to(0, 2), to(0, 0), to(0, 5));
    }

    private void turn() {
        s.says("Promise 35", "A RING turns one on each n (0 never, 1 .. 60) MINUTES from now on: what it was.");
        TurningMarket x = Due.loaded(Markets.SMALL);
        s.due("turn(0, 0)", x.turn(0, 0), 1);
        goes("never", x, 0, 0, 0, 0, 0, 0, 0);
        goes("the other", x, 1, 3, 3, 2, 2, 1, 1);
        s.due("turn(0, 1)", x.turn(0, 1), 0);
        goes("each minute", x, 0, 0, 1, 2, 3, 0, 1);
        s.due("turn(1, 5)", x.turn(1, 5), 2);
        goes("each fifth", x, 1, 3, 3, 3, 3, 3, 2);
        s.due("turn(1, 60)", x.turn(1, 60), 5);
        goes("each sixtieth", x, 1, 3, 3, 3, 3, 3, 3);
        s.due("turn(1, 59)", x.turn(1, 59), 60);
        s.due("turn(1, 59), as it was", x.turn(1, 59), 59);
        s.due("the HOUR", x.asks(1, 5), 9);
        TurningMarket stuck = Due.loaded(Markets.SMALL + "stuck 0 from 1 to 1;");
        stuck.turn(0, 2);
        goes("stuck as told", stuck, 0, 0, 0, 0, 1, 1, 2);
        s.says("Promise 35", "-2: there are none such.");
        TurningMarket y = Due.loaded(Markets.SMALL);
        s.edges("turn", g -> y.turn(g[0], g[1]), -2, of(1, 60), to(0, 1), to(0, 60));
        TurningMarket full = Due.loaded(ToldSentences.FULL);
        s.edges("turn", g -> full.turn(g[0], g[1]), -2, of(2, 0), to(0, 2), to(0, 60));
        TurningMarket z = Due.loaded(Markets.SMALL);
        int[][] refused = {{0, -1}, {0, 61}, {2, 3}, {-1, 3}, {1, Integer.MAX_VALUE}};
        for (int[] g : refused) {
            s.due("turn(" + g[0] + ", " + g[1] + ")", z.turn(g[0], g[1]), -2);
        }
        goes("nothing has changed", z, 0, PLACES[0]);
        goes("nothing has changed", z, 1, PLACES[1]);
        s.due("turn(0, 1)", z.turn(0, 1), 1);
        s.due("turn(1, 2)", z.turn(1, 2), 2);
    }

    private static int again(int places, int a, int b, int c) {
        return Due.loaded("market places " + places + " minutes 1; ring turns " + a + " east; ring turns " + b + " west; ring turns "
            + c + " east;").again();
    }

    private void again() {
        s.says("Promise 36", "The least number of MINUTES (1 .. 3,600) that is some times turns times places for each RING that turns");
        s.due("of one RING", again(5, 3, 0, 0), 15);
        s.due("of the fastest", again(2, 1, 0, 0), 2);
        s.due("of the slowest", again(12, 60, 60, 60), 720);
        s.due("of two", again(4, 2, 3, 0), 24);
        s.due("of three", again(4, 4, 5, 7), 560);
        s.due("of three, one within another", again(6, 4, 2, 8), 48);
        s.due("3,600 of two", again(12, 60, 50, 0), 3600);
        s.due("3,600 of three", again(2, 8, 9, 25), 3600);
        s.due("3,596", again(2, 31, 58, 0), 3596);
        TurningMarket x = Due.loaded(Markets.SMALL);
        s.due("as told", x.again(), 8);
        x.turn(1, 3);
        s.due("as they turn now", x.again(), 12);
        s.says("Promise 36", "(1, if none does);");
        s.due("none turns", again(12, 0, 0, 0), 1);
        s.due("without RINGS", Due.loaded(Markets.BARE).again(), 1);
        s.says("Promise 36", "NONE: none so small.");
        s.due("3,604", again(2, 34, 53, 0), -1);
        s.due("3,608", again(2, 0, 41, 44), -1);
        s.due("3,654", again(2, 7, 9, 29), -1);
        s.due("far more", again(12, 59, 60, 53), -1);
        s.says("Promise 36", "-2: there is no MARKET.");
        TurningMarket none = new TurningMarket();
        s.due("again() of a new object", none.again(), -2);
        Due.load(none, Markets.BARE);
        s.due("again() of a MARKET", none.again(), 1);
        none.market();
        s.due("again() without a MARKET again", none.again(), -2);
    }
}
