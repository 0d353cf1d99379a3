/** The sentences of promises 41 and 42: IMAGES that are kept and gone back to. */
final class ImageSentences extends SentenceGroup {
    ImageSentences(Sentences sentences) {
        super(sentences);
    }

    @Override
    void all() {
        keep();
        back();
        backToAnother();
        nothing();
    }

    private static int[] others() {
        return new int[] {-1, 3, Integer.MIN_VALUE, Integer.MAX_VALUE};
    }

    private void keep() {
        s.says("Promise 41", "IMAGE k (0 .. 2) keeps the MARKET: 0.");
        TurningMarket x = Due.loaded(Markets.SMALL);
        for (int k = 0; k < 3; k++) {
            x.offer(0, 20 + k);
            s.due("keep(" + k + ")", x.keep(k), 0);
        }
        x.offer(0, 50);
        for (int k = 2; k >= 0; k--) {
            s.due("back(" + k + ")", x.back(k), 0);
            s.due("offer(0, 50) behind it", x.offer(0, 50), 20 + k);
        }
        s.due("the MARKET stays as it is", x.keep(1), 0);
        s.due("the MARKET stays as it is", x.asks(0, 0), 50);
        x.offer(0, 3);
        s.due("IMAGE 1 in place of the other", x.back(1), 0);
        s.due("offer(0, 3)", x.offer(0, 3), 50);
        s.due("another IMAGE stays", x.back(0), 0);
        s.due("offer(0, 3)", x.offer(0, 3), 20);
        s.says("Promise 41", "-2: no such k.");
        s.edges("keep", g -> x.keep(g[0]), -2, of(0), to(0, 2));
        TurningMarket none = new TurningMarket();
        s.edges("keep without a MARKET", g -> none.keep(g[0]), -2, of(0), to(0, 2));
    }

    private void back() {
        s.says("Promise 42", "It is as IMAGE k has it: 0.");
        TurningMarket x = Due.loaded(Markets.SMALL);
        x.moves(1, 0);
        x.offer(1, 33);
        x.turn(1, 4);
        x.keep(0);
        x.moves(1, 3);
        x.offer(1, 44);
        x.turn(1, 5);
        s.due("asks(1, 5) ahead of it", x.asks(1, 5), 42);
        for (int n = 0; n < 2; n++) {
            s.due("back(0)", x.back(0), 0);
            s.due("asks(1, 5)", x.asks(1, 5), 31);
            s.due("moves(1, 3)", x.moves(1, 3), 0);
            s.due("offer(1, 44)", x.offer(1, 44), 33);
            s.due("turn(1, 5)", x.turn(1, 5), 4);
            s.due("at(1, 4)", x.at(1, 4), 3);
            s.due("coins(0, 5)", x.coins(0, 5), 16);
        }
        TurningMarket none = new TurningMarket();
        none.keep(2);
        Due.load(none, Markets.SMALL);
        s.due("back(2) to no MARKET", none.back(2), 0);
        s.due("all(0)", none.all(0), -2);
        s.due("count(5)", none.count(5), 0);
        s.due("offer(0, 0)", none.offer(0, 0), -2);
    }

    private void backToAnother() {
        s.says("Promise 42", "It is as IMAGE k has it: 0.");
        TurningMarket x = Due.loaded(ToldSentences.FULL);
        x.keep(1);
        Due.load(x, "market places 2 minutes 2; ring turns 9 west; stall 0 at 1 sells 5 pieces 3 price 2 learns 1;"
            + "buyer at 1 coins 3 habit slow; wants 0 4 pieces 1 limit 1; wants 0 5 pieces 2 limit 2; wants 0 0 pieces 3 limit 3;");
        x.keep(2);
        Due.fill(x, 1, 2, 4, 5);
        Due.feed(x, "?");
        x.market();
        Due.feed(x, "ring");
        s.due("back(1)", x.back(1), 0);
        int[] counts = {12, 60, 3, 8, 6, 29, 4, 67, 1};
        for (int what = 0; what < 9; what++) {
            s.due("count(" + what + ")", x.count(what), counts[what]);
        }
        for (int i = 0; i < 8; i++) {
            for (int what = 0; what < 7; what++) {
                s.due("stall(" + i + ", " + what + ")", x.stall(i, what), ToldSentences.STALLS[i][what]);
            }
        }
        for (int b = 0; b < 6; b++) {
            for (int what = 0; what < 4; what++) {
                s.due("buyer(" + b + ", " + what + ")", x.buyer(b, what), ToldSentences.BUYERS[b][what]);
            }
            for (int i = 0; i < ToldSentences.WANTS[b].length; i++) {
                s.due("want(" + b + ", " + i + ", 2)", x.want(b, i, 2), ToldSentences.WANTS[b][i][2]);
            }
        }
        s.due("the FAULT stays", x.fault(0), 1);
        s.due("the row stays", x.write(1, 1, 0), 0);
        s.due("back(2)", x.back(2), 0);
        s.due("count(3)", x.count(3), 1);
        s.due("want(0, 2, 0)", x.want(0, 2, 0), 0);
        s.due("stall(0, 5)", x.stall(0, 5), 2);
        s.due("turn(0, 9)", x.turn(0, 9), 9);
        s.due("count(7)", x.count(7), 0);
        Due.load(x, Markets.BARE);
        s.due("back(1) behind market()", x.back(1), 0);
        s.due("count(3)", x.count(3), 8);
    }

    private void nothing() {
        s.says("Promise 42", "-2: no such k;");
        TurningMarket x = Due.loaded(Markets.SMALL);
        for (int k : others()) {
            s.due("back(" + k + "), when there are no IMAGES", x.back(k), -2);
        }
        x.keep(0);
        x.keep(2);
        for (int k : others()) {
            s.due("back(" + k + ")", x.back(k), -2);
        }
        s.says("Promise 42", "-6: it has nothing.");
        s.due("back(1), when 0 and 2 have", x.back(1), -6);
        TurningMarket y = Due.loaded(Markets.SMALL);
        y.offer(0, 1);
        for (int k = 0; k < 3; k++) {
            s.due("back(" + k + ")", y.back(k), -6);
        }
        s.due("nothing has changed", y.asks(0, 0), 1);
        s.due("nothing has changed", y.count(5), 10);
        TurningMarket none = new TurningMarket();
        none.keep(0);
        s.due("an IMAGE of no MARKET is one", none.back(0), 0);
    }
}
