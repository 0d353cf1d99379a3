/** The sentences of term I that tell SLOTS, and of promises 31, 39 and 43 to 45. */
final class RowSentences extends SentenceGroup {
    /** One stall that has twenty pieces left: what a row of one number lacks of them is what is missing. */
    private static final String TWENTY = "market places 2 minutes 1; ring turns 0 east; stall 0 at 0 sells 0 pieces 20 price 0 fixed;";
    /** More than sixty sales for nothing. */
    private static final String FOR_NOTHING = "market places 2 minutes 60; ring turns 0 east;"
        + "stall 0 at 0 sells 0 pieces 20 price 0 fixed;".repeat(4)
        + "buyer at 0 coins 0 habit eager;".repeat(6)
            + "wants 0 0 pieces 9 limit 0; wants 1 0 pieces 9 limit 0; wants 2 0 pieces 9 limit 0;"
        + "wants 3 0 pieces 9 limit 0; wants 4 0 pieces 9 limit 0; wants 5 0 pieces 9 limit 0;"
        + "stall 0 at 0 sells 1 pieces 20 price 0 fixed; wants 0 1 pieces 9 limit 0;";
    private static final int SPARE = 3;

    RowSentences(Sentences sentences) {
        super(sentences);
    }

    @Override
    void all() {
        slots();
        robbed();
        theftRefused();
        theftAskedLast();
        judge();
        judgeRefused();
        row();
        rowRefused();
        write();
        writeRefused();
        paste();
        pasteRefused();
        pasteBeyond();
    }

    /** A number 0 to 20 of a row, in a market with twenty pieces: pasted to a row of one number, held against them. */
    private static int number(TurningMarket x, int slot, int width, int i) {
        x.row(SPARE, width, 1);
        return x.paste(slot, i, SPARE, 0, 1) == 0 ? 20 - x.theft(SPARE, 2) : -1;
    }

    private void holds(String what, TurningMarket x, int slot, int width, int... numbers) {
        for (int i = 0; i < numbers.length; i++) {
            s.due(what + ": number " + i + " of SLOT " + slot, number(x, slot, width, i), numbers[i]);
        }
        s.due(what + ": a number beyond", x.write(slot, numbers.length, 0), -7);
    }

    private void slots() {
        s.says("Term I", "SLOTS 0 .. 3 have rows of numbers of 1, 2, 4 or 8 bytes (WIDTH 0 .. 3), at most 60, or nothing.");
        int[] bits = {8, 16, 32, 64};
        for (int slot = 0; slot < 4; slot++) {
            TurningMarket x = Due.loaded(TWENTY);
            s.due("nothing at first", x.write(slot, 0, 0), -6);
            for (int width = 0; width < 4; width++) {
                s.due("sixty", x.row(slot, width, 60), 0);
                s.due("the sixtieth", x.write(slot, 59, 1), 0);
                s.due("beyond it", x.write(slot, 60, 1), -7);
                x.row(slot, width, 1);
                // the bit ahead of the highest one is a number's, the one behind it is cut off
                s.due("a number", x.write(slot, 0, 5 + (1L << bits[width] - 2)), 0);
                s.due("its highest bit but one", x.theft(slot, 0), -2);
                s.due("a number", x.write(slot, 0, 5 + (1L << bits[width] - 1)), 0);
                s.due("its highest bit", x.theft(slot, 0), -2);
                if (width < 3) {
                    s.due("a number", x.write(slot, 0, 5 + (1L << bits[width])), 0);
                    s.due("cut", x.theft(slot, 2), 15);
                    s.due("a number", x.write(slot, 0, 5 - (1L << bits[width])), 0);
                    s.due("cut", x.theft(slot, 2), 15);
                }
            }
        }
        TurningMarket x = Due.loaded(TWENTY);
        s.edges("row", g -> x.row(g[0], g[1], 1), -2, of(0, 0), to(0, 3), to(0, 3));
    }

    private void theft(String what, TurningMarket x, int robbed, int first, int missing) {
        s.due(what + ": theft(0, 0)", x.theft(0, 0), robbed);
        s.due(what + ": theft(0, 1)", x.theft(0, 1), first);
        s.due(what + ": theft(0, 2)", x.theft(0, 2), missing);
    }

    private static TurningMarket with(String market, int width, long... numbers) {
        TurningMarket x = Due.loaded(market);
        Due.fill(x, 0, width, numbers);
        return x;
    }

    private void robbed() {
        // at the end of the HOUR 2, 1 and 0 pieces should be left
        String[] sentences = {"THEFT: a SLOT's row of pieces that are left at STALLS in order: what 0: at how many there are fewer than should be,",
            "1: the first (NONE),", "2: how many pieces are missing."};
        long[][] rows = {{2, 1, 0}, {3, 2, 1}, {20, 20, 20}, {1, 1, 0}, {2, 0, 0}, {0, 1, 0}, {0, 0, 0}, {20, 0, 20}, {1, 20, 0}};
        int[][] due = {{0, -1, 0}, {0, -1, 0}, {0, -1, 0}, {1, 0, 1}, {1, 1, 1}, {1, 0, 2}, {2, 0, 3}, {1, 1, 1}, {1, 0, 1}};
        for (int what = 0; what < 3; what++) {
            s.says("Promise 31", sentences[what]);
            for (int i = 0; i < rows.length; i++) {
                TurningMarket x = with(Markets.SMALL, i % 4, rows[i]);
                s.due("row " + i + ": theft(0, " + what + ")", x.theft(0, what), due[i][what]);
            }
            TurningMarket eight = with(ToldSentences.FULL, 0, 0, 0, 0, 0, 0, 0, 0, 0);
            int[] all = {0, -1, 0};
            for (int i = 7; i >= 0; i--) {
                int left = eight.has(i, 59);
                all[0] += left > 0 ? 1 : 0;
                all[1] = left > 0 ? i : all[1];
                all[2] += left;
            }
            s.due("all of eight: theft(0, " + what + ")", eight.theft(0, what), all[what]);
            s.due("without STALLS: theft(0, " + what + ")", with(Markets.BARE, 0).theft(0, what), what == 1 ? -1 : 0);
        }
    }

    private void theftRefused() {
        s.says("Promise 31", "-2: there is no such SLOT, what, no MARKET,");
        TurningMarket x = with(Markets.SMALL, 0, 2, 1, 0);
        for (int slot = 1; slot < 4; slot++) {
            Due.fill(x, slot, 0, 2, 1, 0);
        }
        s.edges("theft", g -> x.theft(g[0], g[1]), -2, of(0, 0), to(0, 3), to(0, 2));
        s.edges("theft", g -> x.theft(g[0], g[1]), -2, of(3, 2), to(0, 3), to(0, 2));
        TurningMarket y = Due.loaded(Markets.SMALL);
        s.due("no such SLOT, and it has nothing", y.theft(4, 0), -2);
        s.due("no such what, and it has nothing", y.theft(0, 3), -2);
        s.due("no such what, and it has nothing", y.theft(0, -1), -2);
        s.due("no MARKET, and it has nothing", new TurningMarket().theft(0, 0), -2);
        y.row(0, 0, 4);
        s.due("no such what, and there are not as many", y.theft(0, 3), -2);
        TurningMarket none = new TurningMarket();
        none.row(0, 0, 0);
        s.due("no MARKET, and as many as it has STALLS", none.theft(0, 0), -2);
        none.row(0, 0, 1);
        s.due("no MARKET, and not as many", none.theft(0, 0), -2);
        s.says("Promise 31", "-6: it has nothing;");
        TurningMarket z = Due.loaded(Markets.SMALL);
        for (int slot = 0; slot < 4; slot++) {
            s.due("nothing in SLOT " + slot, z.theft(slot, 0), -6);
            z.row(slot, 0, 3);
            s.due("a row in SLOT " + slot, z.theft(slot, 0), 2);
        }
        s.due("nothing, without STALLS", Due.loaded(Markets.BARE).theft(0, 0), -6);
        s.says("Promise 31", "-7: there are not as many.");
        for (int n = 0; n <= 60; n++) {
            TurningMarket many = Due.loaded(Markets.SMALL);
            many.row(0, n % 4, n);
            theft(n + " numbers", many, n == 3 ? 2 : -7, n == 3 ? 0 : -7, n == 3 ? 3 : -7);
        }
        theft("one too many, without STALLS", with(Markets.BARE, 0, 0), -7, -7, -7);
        theft("seven of eight", with(ToldSentences.FULL, 0, 9, 9, 9, 9, 9, 9, 9), -7, -7, -7);
        theft("nine of eight", with(ToldSentences.FULL, 0, 9, 9, 9, 9, 9, 9, 9, 9, 9), -7, -7, -7);
    }

    private void theftAskedLast() {
        s.says("Promise 31", "a number is not 0 .. 20 (asked last);");
        for (int i = 0; i < 3; i++) {
            for (int width = 0; width < 4; width++) {
                TurningMarket x = with(Markets.SMALL, width, 20, 20, 20);
                theft("20", x, 0, -1, 0);
                x.write(0, i, 21);
                theft("21", x, -2, -2, -2);
                x.write(0, i, -1);
                theft("-1", x, -2, -2, -2);
                x.write(0, i, 127);
                theft("127", x, -2, -2, -2);
                x.write(0, i, 0);
                s.due("0", x.theft(0, 0), i < 2 ? 1 : 0);
            }
        }
        theft("far above", with(Markets.SMALL, 3, 2, 1, 4294967296L), -2, -2, -2);
        theft("far below", with(Markets.SMALL, 3, 2, 1, Long.MIN_VALUE), -2, -2, -2);
        theft("not as many, and one is 21", with(Markets.SMALL, 0, 2, 21), -7, -7, -7);
        theft("not as many, and one is -1", with(Markets.SMALL, 0, -1, 2), -7, -7, -7);
        theft("too many, and one of them is 21", with(Markets.SMALL, 0, 2, 1, 0, 21), -7, -7, -7);
    }

    private void judge() {
        s.says("Promise 39", "A SLOT's row as prices that are paid one by one in the HOUR: how many ahead of the first that is not so (beyond SALES, too).");
        long[][] rows = {{10, 4, 7}, {10, 4}, {10}, {}, {10, 4, 8}, {10, 5, 7}, {9, 4, 7}, {10, 4, 7, 0}, {10, 4, 7, 7, 7}, {4,
            10, 7}, {0, 0, 0},
            {10, 4, 6}, {-10, 4, 7}};
        int[] due = {3, 2, 1, 0, 2, 1, 0, 3, 3, 0, 0, 2, 0};
        for (int i = 0; i < rows.length; i++) {
            for (int width = 0; width < 4; width++) {
                s.due("judge(0) of row " + i + " of WIDTH " + width, with(Markets.SMALL, width, rows[i]).judge(0), due[i]);
            }
        }
        s.due("without SALES", with(Markets.BARE, 0, 0, 0).judge(0), 0);
        TurningMarket free = Due.loaded(FOR_NOTHING);
        s.due("more than sixty SALES", free.all(0) > 60 ? 1 : 0, 1);
        free.row(2, 3, 60);
        s.due("sixty that are so", free.judge(2), 60);
        free.write(2, 59, 1);
        s.due("fifty-nine that are so", free.judge(2), 59);
        TurningMarket one = with(Markets.SMALL, 0, 10, 4, 7, 0);
        one.offer(0, 0);
        s.due("the prices as they are now", one.judge(0), 0);
    }

    private void judgeRefused() {
        s.says("Promise 39", "-2: there is no such SLOT, no MARKET;");
        TurningMarket x = Due.loaded(Markets.SMALL);
        for (int slot = 0; slot < 4; slot++) {
            x.row(slot, 0, 1);
        }
        s.edges("judge", g -> x.judge(g[0]), -2, of(0), to(0, 3));
        s.due("no MARKET, and it has nothing", new TurningMarket().judge(0), -2);
        TurningMarket none = new TurningMarket();
        none.row(1, 0, 3);
        s.due("no MARKET", none.judge(1), -2);
        s.says("Promise 39", "-6: it has nothing.");
        TurningMarket y = Due.loaded(Markets.SMALL);
        for (int slot = 0; slot < 4; slot++) {
            s.due("nothing in SLOT " + slot, y.judge(slot), -6);
            y.row(slot, 0, 0);
            s.due("a row of no numbers in SLOT " + slot, y.judge(slot), 0);
        }
    }

    private void row() {
        s.says("Promise 43", "A SLOT (0 .. 3) has a row of n numbers of a WIDTH, all 0 (in place of another one): 0.");
        for (int slot = 0; slot < 4; slot++) {
            TurningMarket x = Due.loaded(FOR_NOTHING);
            for (int n = 60; n > 0; n -= 7) {
                s.due("row(" + slot + ", 3, " + n + ")", x.row(slot, 3, n), 0);
                s.due("all 0", x.judge(slot), n);
                s.due("the last one", x.write(slot, n - 1, -1), 0);
                s.due("the first one", x.write(slot, 0, -1), 0);
                s.due("beyond it", x.write(slot, n, -1), -7);
            }
            s.due("sixty again", x.row(slot, 3, 60), 0);
            s.due("all 0", x.judge(slot), 60);
            s.due("another WIDTH", x.row(slot, 0, 60), 0);
            s.due("all 0", x.judge(slot), 60);
            x.write(slot, 0, 256);
            s.due("cut to it", x.judge(slot), 60);
            s.due("no numbers", x.row(slot, 0, 0), 0);
            s.due("no first one", x.write(slot, 0, 0), -7);
            s.due("a row all the same", x.count(8), 1);
        }
        TurningMarket y = Due.loaded(TWENTY);
        for (int slot = 0; slot < 3; slot++) {
            Due.fill(y, slot, 1, slot + 1, slot + 2);
        }
        y.row(1, 1, 2);
        holds("another SLOT's row", y, 0, 1, 1, 2);
        holds("the SLOT's own", y, 1, 1, 0, 0);
        holds("another SLOT's row", y, 2, 1, 3, 4);
    }

    private void rowRefused() {
        s.says("Promise 43", "-2: there is no such SLOT or WIDTH (0 .. 3), or n is above 60;");
        TurningMarket x = Due.loaded(TWENTY);
        Due.fill(x, 0, 1, 7, 8);
        int[][] refused = {{-1, 1, 1}, {4, 1, 1}, {0, -1, 1}, {0, 4, 1}, {0, 1, 61}, {0, 1, Integer.MAX_VALUE}, {Integer.MIN_VALUE, 1, 1},
            {Integer.MAX_VALUE, 1, 1}, {0, Integer.MIN_VALUE, 1}, {0, Integer.MAX_VALUE, 1}};
        for (int[] g : refused) {
            s.due("row(" + g[0] + ", " + g[1] + ", " + g[2] + ")", x.row(g[0], g[1], g[2]), -2);
        }
        s.due("no such SLOT, and n is below 0", x.row(4, 1, -1), -2);
        s.due("no such SLOT, and n is below 0", x.row(-1, 1, -1), -2);
        s.due("no such WIDTH, and n is below 0", x.row(0, 4, -1), -2);
        s.due("no such WIDTH, and n is below 0", x.row(0, -1, -1), -2);
        holds("nothing has changed", x, 0, 1, 7, 8);
        int[] slots = {0, 3};
        for (int slot : slots) {
            s.due("row(" + slot + ", 3, 60)", x.row(slot, 3, 60), 0);
            s.due("row(" + slot + ", 0, 60)", x.row(slot, 0, 60), 0);
            s.due("row(" + slot + ", 0, 0)", x.row(slot, 0, 0), 0);
        }
        s.says("Promise 43", "-3, and the SLOT stays: n is below 0.");
        TurningMarket y = Due.loaded(TWENTY);
        Due.fill(y, 0, 1, 7, 8);
        int[] below = {-1, -60, -61, Integer.MIN_VALUE};
        for (int n : below) {
            for (int width = 0; width < 4; width++) {
                s.due("row(0, " + width + ", " + n + ")", y.row(0, width, n), -3);
                s.due("row(2, " + width + ", " + n + ")", y.row(2, width, n), -3);
            }
        }
        holds("the SLOT stays", y, 0, 1, 7, 8);
        s.due("one that has nothing stays", y.write(2, 0, 0), -6);
        s.due("count(8), with the one that holds asks", y.count(8), 2);
    }

    private void write() {
        s.says("Promise 44", "Number i of the SLOT's row is v, cut to its WIDTH: 0.");
        long[] cuts = {1L << 8, 1L << 16, 1L << 32, 0};
        for (int width = 0; width < 4; width++) {
            TurningMarket x = Due.loaded(TWENTY);
            x.row(0, width, 4);
            x.row(1, width, 4);
            s.due("the first", x.write(0, 0, 11), 0);
            s.due("the last", x.write(0, 3, 12), 0);
            s.due("one within", x.write(0, 2, 13 + cuts[width]), 0);
            holds("of one, the others stay", x, 0, width, 11, 0, 13, 12);
            holds("of the other SLOT", x, 1, width, 0, 0, 0, 0);
            s.due("in place of it", x.write(0, 2, 14 - 3 * cuts[width]), 0);
            holds("in place of it", x, 0, width, 11, 0, 14, 12);
        }
        long[] ones = {127, -128, 32767, -32768, Integer.MAX_VALUE, Integer.MIN_VALUE, Long.MAX_VALUE, Long.MIN_VALUE, 255, 65535,
            4294967295L, -1};
        for (long v : ones) {
            for (int width = 0; width < 4; width++) {
                TurningMarket x = Due.loaded(TWENTY);
                x.row(0, width, 1);
                s.due("write(0, 0, " + v + ")", x.write(0, 0, v), 0);
                long mask = width == 3 ? -1L : cuts[width] - 1;
                s.due("number " + v + " of WIDTH " + width, x.theft(0, 0), (v & mask) == 0 ? 1 : -2);
            }
        }
    }

    private void writeRefused() {
        TurningMarket x = Due.loaded(TWENTY);
        Due.fill(x, 0, 1, 7, 8);
        s.says("Promise 44", "-2: there is no such SLOT;");
        int[] noSlots = {-1, 4, Integer.MIN_VALUE, Integer.MAX_VALUE};
        for (int slot : noSlots) {
            s.due("write(" + slot + ", 0, 0)", x.write(slot, 0, 0), -2);
            s.due("write(" + slot + ", -1, 0)", x.write(slot, -1, 0), -2);
        }
        s.says("Promise 44", "-6: it has nothing;");
        for (int slot = 1; slot < 4; slot++) {
            s.due("write(" + slot + ", 0, 0)", x.write(slot, 0, 0), -6);
            s.due("it has nothing, and no such number", x.write(slot, -1, 0), -6);
            s.due("it has nothing, and no such number", x.write(slot, 60, 0), -6);
        }
        s.says("Promise 44", "-7: there is no such number.");
        int[] beyond = {-1, 2, 60, Integer.MIN_VALUE, Integer.MAX_VALUE};
        for (int i : beyond) {
            s.due("write(0, " + i + ", 9)", x.write(0, i, 9), -7);
        }
        holds("nothing has changed", x, 0, 1, 7, 8);
        s.due("the first", x.write(0, 0, 9), 0);
        s.due("the last", x.write(0, 1, 10), 0);
    }

    private void paste() {
        s.says("Promise 45", "So many numbers of a SLOT's row, from one on, are put to another one's (or its own), from one on, as they were: 0.");
        for (int width = 0; width < 4; width++) {
            TurningMarket x = Due.loaded(TWENTY);
            Due.fill(x, 0, width, 1, 2, 3, 4, 5, 6);
            Due.fill(x, 1, width, 11, 12, 13, 14);
            s.due("to another one's", x.paste(0, 1, 1, 2, 2), 0);
            holds("to another one's", x, 1, width, 11, 12, 2, 3);
            holds("from another one's", x, 0, width, 1, 2, 3, 4, 5, 6);
            s.due("to the end", x.paste(1, 0, 0, 4, 2), 0);
            holds("to the end", x, 0, width, 1, 2, 3, 4, 11, 12);
            s.due("the whole row", x.paste(1, 0, 0, 0, 4), 0);
            holds("the whole row", x, 0, width, 11, 12, 2, 3, 11, 12);
        }
        own(0, 1, 5, 1, 1, 2, 3, 4, 5);
        own(1, 0, 5, 2, 3, 4, 5, 6, 6);
        own(0, 2, 3, 1, 2, 1, 2, 3, 6);
        own(3, 1, 3, 1, 4, 5, 6, 5, 6);
        own(0, 3, 3, 1, 2, 3, 1, 2, 3);
        own(2, 2, 4, 1, 2, 3, 4, 5, 6);
        own(5, 0, 1, 6, 2, 3, 4, 5, 6);
        own(0, 0, 6, 1, 2, 3, 4, 5, 6);
        own(4, 1, 0, 1, 2, 3, 4, 5, 6);
        own(6, 6, 0, 1, 2, 3, 4, 5, 6);
    }

    /** A paste of n numbers within the row 1 to 6. */
    private void own(int i, int k, int n, int... due) {
        TurningMarket x = Due.loaded(TWENTY);
        Due.fill(x, 1, 2, 1, 2, 3, 4, 5, 6);
        s.due("paste(1, " + i + ", 1, " + k + ", " + n + ")", x.paste(1, i, 1, k, n), 0);
        holds("paste(1, " + i + ", 1, " + k + ", " + n + ")", x, 1, 2, due);
    }

    private void pasteRefused() {
        TurningMarket x = Due.loaded(TWENTY);
        Due.fill(x, 0, 1, 1, 2, 3);
        Due.fill(x, 1, 2, 4, 5);
        s.says("Promise 45", "-2: there is no such SLOT;");
        s.edges("paste", g -> x.paste(g[0], 0, g[1], 0, 0), -2, of(0, 0), to(0, 3), to(0, 3));
        s.due("the one has nothing, there is no other", x.paste(2, 0, 4, 0, 0), -2);
        s.due("there is no one, the other has nothing", x.paste(-1, 0, 2, 0, 0), -2);
        s.due("no such SLOT, and below 0", x.paste(0, -1, 4, -1, -1), -2);
        s.says("Promise 45", "-6: one has nothing;");
        s.due("the one", x.paste(2, 0, 0, 0, 1), -6);
        s.due("the other", x.paste(0, 0, 2, 0, 1), -6);
        s.due("both", x.paste(3, 0, 2, 0, 1), -6);
        s.due("both, of one SLOT", x.paste(3, 0, 3, 0, 0), -6);
        s.due("the other, and beyond", x.paste(0, 4, 2, 0, 1), -6);
        s.due("the one, and below 0", x.paste(2, 0, 1, 0, -1), -6);
        s.says("Promise 45", "-8: they are not of one WIDTH;");
        s.due("1 and 2", x.paste(0, 0, 1, 0, 1), -8);
        s.due("2 and 1", x.paste(1, 0, 0, 0, 1), -8);
        s.due("and no numbers", x.paste(1, 0, 0, 0, 0), -8);
        s.due("and beyond", x.paste(0, 3, 1, 0, 1), -8);
        s.due("and a place below 0", x.paste(0, -1, 1, 0, 1), -8);
        s.due("and n below 0", x.paste(0, 0, 1, 0, -1), -8);
        for (int width = 0; width < 4; width++) {
            for (int other = 0; other < 4; other++) {
                TurningMarket y = new TurningMarket();
                y.row(0, width, 2);
                y.row(3, other, 2);
                s.due("WIDTH " + width + " and " + other, y.paste(0, 0, 3, 0, 2), width == other ? 0 : -8);
            }
        }
        holds("nothing has changed", x, 0, 1, 1, 2, 3);
        holds("nothing has changed", x, 1, 2, 4, 5);
    }

    private void pasteBeyond() {
        s.says("Promise 45", "-7, and nothing happens: some are beyond their rows (also where n is 0, a place above how many it has), or a place or n is below 0.");
        TurningMarket x = Due.loaded(TWENTY);
        Due.fill(x, 0, 1, 1, 2, 3, 4, 5);
        Due.fill(x, 1, 1, 11, 12, 13);
        int max = Integer.MAX_VALUE;
        int min = Integer.MIN_VALUE;
        int[][] refused = {{0, 0, 1, 0, 4}, {1, 0, 0, 0, 4}, {0, 3, 1, 0, 3}, {0, 5, 1, 0, 1}, {0, 0, 1, 1, 3}, {0, 0, 1, 3, 1},
            {0, 0, 0, 1, 5},
            {0, 1, 0, 0, 5}, {0, 6, 1, 0, 0}, {0, 0, 1, 4, 0}, {1, 4, 1, 0, 0}, {1, 0, 1, 4, 0}, {0, -1, 1, 0, 1}, {0, 0, 1, -1,
                1}, {0, 0, 1, 0, -1},
            {0, -1, 1, 0, 0}, {0, 0, 1, -1, 0}, {0, -1, 1, 0, 2}, {0, 0, 1, -1, 2}, {0, max, 1, 0, 1}, {0, 0, 1, max, 1}, {0, 0, 1, 0, max},
            {0, max, 1, max, max}, {0, 1, 1, 1, max}, {0, max, 1, 0, 0}, {0, 0, 1, max, 0}, {0, min, 1, 0, 1}, {0, 0, 1, min, 1},
                {0, 0, 1, 0, min},
            {0, min, 1, min, min}, {0, 5, 1, 3, -1}, {0, max, 0, 0, min}, {0, 0, 0, 0, 6}, {0, 0, 0, 0, 60}};
        for (int[] g : refused) {
            s.due("paste(" + g[0] + ", " + g[1] + ", " + g[2] + ", " + g[3] + ", " + g[4] + ")", x.paste(g[0], g[1], g[2], g[3], g[4]), -7);
        }
        holds("nothing has happened", x, 0, 1, 1, 2, 3, 4, 5);
        holds("nothing has happened", x, 1, 1, 11, 12, 13);
        int[][] taken = {{0, 5, 1, 3, 0}, {0, 5, 1, 0, 0}, {0, 0, 1, 3, 0}, {1, 3, 0, 5, 0}, {0, 0, 1, 0, 0}};
        for (int[] g : taken) {
            s.due("none, from and to an end", x.paste(g[0], g[1], g[2], g[3], g[4]), 0);
        }
        holds("none are put", x, 0, 1, 1, 2, 3, 4, 5);
        holds("none are put", x, 1, 1, 11, 12, 13);
        s.due("the last ones, to the end", x.paste(0, 2, 1, 0, 3), 0);
        holds("the last ones, to the end", x, 1, 1, 3, 4, 5);
        s.due("the last one, to the end", x.paste(1, 0, 0, 4, 1), 0);
        holds("the last one, to the end", x, 0, 1, 1, 2, 3, 4, 3);
        TurningMarket none = new TurningMarket();
        none.row(0, 0, 0);
        s.due("none of none", none.paste(0, 0, 0, 0, 0), 0);
        s.due("one of none", none.paste(0, 0, 0, 0, 1), -7);
        s.due("none of none, from 1 on", none.paste(0, 1, 0, 0, 0), -7);
        s.due("none of none, to 1 on", none.paste(0, 0, 0, 1, 0), -7);
        none.row(0, 0, 60);
        s.due("sixty", none.paste(0, 0, 0, 0, 60), 0);
        s.due("sixty-one", none.paste(0, 0, 0, 0, 61), -7);
    }
}
