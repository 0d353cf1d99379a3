/** The sentences of term II that tell the HOUR, and of promises 14 to 20. */
final class HourSentences extends SentenceGroup {
    private static final String TERM = "Term II";

    HourSentences(Sentences sentences) {
        super(sentences);
    }

    @Override
    void all() {
        order();
        pieces();
        wants();
        coinsFor();
        eager();
        thrifty();
        slow();
        fixed();
        falls();
        learnsMore();
        learnsLess();
        learnsFromWhom();
        learnsTooDear();
        asks();
        has();
        sold();
        bought();
        coins();
        sale();
        inAll();
        busiest();
    }

    private void sales(String what, TurningMarket x, int[]... due) {
        s.due(what + ": all(0)", x.all(0), due.length);
        for (int i = 0; i < due.length; i++) {
            for (int k = 0; k < 4; k++) {
                s.due(what + ": sale(" + i + ", " + k + ")", x.sale(i, k), due[i][k]);
            }
        }
        s.due(what + ": the sale behind the last", x.sale(due.length, 0), -1);
    }

    /** The minutes of the sales of a stall that stands still, all of one price, to a buyer who can pay. */
    private void minutesOfSales(String what, TurningMarket x, int... minutes) {
        s.due(what + ": all(0)", x.all(0), minutes.length);
        for (int i = 0; i < minutes.length; i++) {
            s.due(what + ": sale(" + i + ", 0)", x.sale(i, 0), minutes[i]);
        }
    }

    private void prices(String what, TurningMarket x, int stall, int... due) {
        for (int m = 0; m < due.length; m++) {
            s.due(what + ": asks(" + stall + ", " + m + ")", x.asks(stall, m), due[m]);
        }
    }

    private void order() {
        s.says(TERM, "HOUR: MINUTE by MINUTE, PLACE by PLACE, of each PLACE STALL by STALL that is ahead of it, of each BUYER by BUYER who"
            + " stands there:");
        TurningMarket x = still(2, "stall 0 at 3 sells 0 pieces 9 price 1 fixed; stall 0 at 0 sells 0 pieces 9 price 2 fixed;",
            "stall 0 at 1 sells 0 pieces 9 price 3 fixed; stall 0 at 0 sells 0 pieces 9 price 4 fixed;",
            "buyer at 3 coins 99 habit eager; buyer at 0 coins 99 habit eager; buyer at 2 coins 99 habit eager;",
            "buyer at 0 coins 99 habit eager; buyer at 1 coins 99 habit eager;",
            want(4, 0, 9, 9), want(3, 0, 9, 9), want(2, 0, 9, 9), want(1, 0, 9, 9), want(0, 0, 9, 9));
        int[][] due = new int[12][];
        for (int m = 0; m < 2; m++) {
            due[6 * m] = new int[] {m, 1, 1, 2};
            due[6 * m + 1] = new int[] {m, 1, 3, 2};
            due[6 * m + 2] = new int[] {m, 3, 1, 4};
            due[6 * m + 3] = new int[] {m, 3, 3, 4};
            due[6 * m + 4] = new int[] {m, 2, 4, 3};
            due[6 * m + 5] = new int[] {m, 0, 0, 1};
        }
        sales("in order", x, due);
        // both come to place 0 from places 3 and 1: the places count as they are now, not the spots
        TurningMarket turned = Due.loaded("market places 3 minutes 2; ring turns 1 east; ring turns 1 west;"
            + "stall 0 at 1 sells 0 pieces 9 price 1 fixed; stall 1 at 1 sells 0 pieces 9 price 2 fixed;"
            + "buyer at 2 coins 9 habit eager; buyer at 0 coins 9 habit eager;" + want(0, 0, 9, 9) + want(1, 0, 9, 9));
        sales("turned", turned, new int[] {1, 1, 1, 2}, new int[] {1, 0, 0, 1});
        TurningMarket last = Due.loaded("market places 12 minutes 1; ring turns 0 east; stall 0 at 11 sells 0 pieces 1 price 1 fixed;"
            + "buyer at 11 coins 9 habit eager;" + want(0, 0, 9, 9));
        sales("at the last PLACE", last, new int[] {0, 0, 0, 1});
    }

    private void pieces() {
        s.says(TERM, "he buys one piece, if the STALL has one,");
        sales("one in a MINUTE", still(2, stall(0, 9, 1, "fixed"), RICH, want(0, 0, 9, 9)), new int[] {0, 0, 0, 1}, new int[] {1, 0, 0, 1});
        sales("until there are none", still(5, stall(0, 2, 1, "fixed"), RICH, want(0, 0, 9, 9)), new int[] {0, 0, 0, 1},
            new int[] {1, 0, 0, 1});
        sales("one alone", still(5, stall(0, 1, 1, "fixed"), RICH, want(0, 0, 9, 9)), new int[] {0, 0, 0, 1});
        sales("none", still(5, stall(0, 0, 1, "fixed"), RICH, want(0, 0, 9, 9)));
        sales("the last one to the first", still(2, stall(0, 3, 1, "fixed"), RICH, RICH, want(0, 0, 9, 9), want(1, 0, 9, 9)),
            new int[] {0, 0, 0, 1}, new int[] {0, 0, 1, 1}, new int[] {1, 0, 0, 1});
        TurningMarket most = still(60, stall(0, 20, 0, "fixed"), RICH, RICH, RICH, want(0, 0, 9, 0), want(1, 0, 9, 0), want(2, 0, 9, 0));
        s.due("twenty", most.all(0), 20);
    }

    private void wants() {
        s.says(TERM, "he has a WANT of its GOOD that lacks some,");
        sales("as many as he wants", still(5, stall(2, 9, 1, "fixed"), RICH, want(0, 2, 2, 9)), new int[] {0, 0, 0, 1},
            new int[] {1, 0, 0, 1});
        sales("another GOOD", still(5, stall(2, 9, 1, "fixed"), RICH, want(0, 3, 2, 9)));
        sales("no WANT", still(5, stall(0, 9, 1, "fixed"), RICH));
        sales("another one's WANT", still(5, stall(2, 9, 1, "fixed"), "buyer at 1 coins 9 habit eager;", RICH, want(0, 2, 2, 9)));
        sales("one from both", still(5, stall(2, 9, 1, "fixed"), stall(2, 9, 2, "fixed"), RICH, want(0, 2, 1, 9)), new int[] {0, 0, 0, 1});
        sales("each WANT apart", still(5, stall(5, 9, 1, "fixed"), stall(0, 9, 2, "fixed"), stall(3, 9, 4, "fixed"), RICH,
            want(0, 0, 1, 9), want(0, 3, 1, 3), want(0, 5, 2, 9)),
            new int[] {0, 0, 0, 1}, new int[] {0, 1, 0, 2}, new int[] {1, 0, 0, 1});
    }

    private void coinsFor() {
        s.says(TERM, "coins for what it asks,");
        String nine = stall(0, 9, 9, "fixed");
        sales("just so many", still(3, nine, buyer(9, "eager"), want(0, 0, 9, 99)), new int[] {0, 0, 0, 9});
        sales("one too few", still(3, nine, buyer(8, "eager"), want(0, 0, 9, 99)));
        sales("just for two", still(3, nine, buyer(18, "eager"), want(0, 0, 9, 99)), new int[] {0, 0, 0, 9}, new int[] {1, 0, 0, 9});
        sales("one too few for two", still(3, nine, buyer(17, "eager"), want(0, 0, 9, 99)), new int[] {0, 0, 0, 9});
        sales("none for nothing", still(2, stall(0, 9, 0, "fixed"), buyer(0, "eager"), want(0, 0, 9, 99)),
            new int[] {0, 0, 0, 0}, new int[] {1, 0, 0, 0});
        sales("thrifty", still(1, nine, buyer(8, "thrifty"), want(0, 0, 9, 99)));
        sales("slow", still(1, nine, buyer(8, "slow"), want(0, 0, 9, 99)));
        sales("what the dear one leaves", still(1, nine, stall(1, 9, 3, "fixed"), stall(1, 9, 1, "fixed"), buyer(11, "eager"),
            want(0, 0, 9, 99), want(0, 1, 9, 99)), new int[] {0, 0, 0, 9}, new int[] {0, 2, 0, 1});
    }

    private void eager() {
        s.says(TERM, "and by his habit he would: eager: it asks no more than limit;");
        int[] limits = {0, 1, 50, 98, 99};
        for (int limit : limits) {
            TurningMarket x = still(3, stall(0, 9, limit, "fixed"), RICH, want(0, 0, 9, limit));
            minutesOfSales("as much as limit " + limit, x, 0, 1, 2);
            if (limit < 99) {
                x.offer(0, limit + 1);
                minutesOfSales("more than limit " + limit, x);
            }
        }
    }

    private void thrifty() {
        s.says(TERM, "thrifty: in the first half of MINUTES (MINUTE twice below minutes) no more than half the limit (cut), then no more than limit;");
        // price 5 is above half the limit, so that he buys from the second half on
        int[][] firsts = {{1, -1}, {2, 1}, {3, 2}, {4, 2}, {5, 3}, {6, 3}, {7, 4}, {59, 30}, {60, 30}};
        for (int[] first : firsts) {
            TurningMarket x = still(first[0], stall(0, 20, 5, "fixed"), buyer(999, "thrifty"), want(0, 0, 9, 9));
            s.due("his first MINUTE of " + first[0], x.sold(0, 2), first[1]);
        }
        int[][] halves = {{0, 0}, {1, 0}, {2, 1}, {3, 1}, {8, 4}, {9, 4}, {98, 49}, {99, 49}};
        for (int[] half : halves) {
            TurningMarket x = still(4, stall(0, 20, half[1], "fixed"), buyer(999, "thrifty"), want(0, 0, 9, half[0]));
            minutesOfSales("half of limit " + half[0], x, 0, 1, 2, 3);
            x.offer(0, half[1] + 1);
            if (half[1] + 1 <= half[0]) {
                minutesOfSales("more than half of limit " + half[0], x, 2, 3);
            } else {
                minutesOfSales("more than limit " + half[0], x);
            }
            x.offer(0, half[0]);
            minutesOfSales("limit " + half[0], x, half[0] == 0 ? new int[] {0, 1, 2, 3} : new int[] {2, 3});
            if (half[0] < 99) {
                x.offer(0, half[0] + 1);
                minutesOfSales("above limit " + half[0], x);
            }
        }
    }

    private void slow() {
        s.says(TERM, "slow: no more than limit, and he bought nothing in the two MINUTES ahead (of this one he may buy more).");
        TurningMarket x = still(8, stall(0, 20, 7, "fixed"), buyer(999, "slow"), want(0, 0, 9, 7));
        minutesOfSales("as much as limit", x, 0, 3, 6);
        x.offer(0, 8);
        minutesOfSales("more than limit", x);
        sales("more of this one", still(4, stall(0, 20, 1, "fixed"), stall(1, 20, 2, "fixed"), stall(0, 20, 3, "fixed"), buyer(999, "slow"),
            want(0, 0, 9, 9), want(0, 1, 9, 9)), new int[] {0, 0, 0, 1}, new int[] {0, 1, 0, 2}, new int[] {0, 2, 0, 3},
            new int[] {3, 0, 0, 1}, new int[] {3, 1, 0, 2}, new int[] {3, 2, 0, 3});
        String slow = "stall 0 at 0 sells 0 pieces 9 price 1 fixed;" + buyer(99, "slow") + want(0, 0, 9, 9);
        minutesOfSales("by in 0 2 4 6", Due.loaded("market places 2 minutes 8; ring turns 1 east;" + slow), 0, 4);
        minutesOfSales("by in 0 3 6", Due.loaded("market places 3 minutes 8; ring turns 1 east;" + slow), 0, 3, 6);
        minutesOfSales("by in 0 1 4 5", Due.loaded("market places 2 minutes 8; ring turns 2 east;" + slow), 0, 4);
        minutesOfSales("by in 0 2 4 6 of those that it sells first in 2", Due.loaded("market places 2 minutes 8; ring turns 1 east;"
            + "stall 0 at 0 sells 0 pieces 9 price 12 falls 1;" + buyer(99, "slow") + want(0, 0, 9, 10)), 2, 6);
        String two = "market places 4 minutes 6; ring turns 0 east; ring turns 1 west;" + stall(0, 1, 1, "fixed");
        String wants = buyer(99, "slow") + want(0, 0, 9, 9) + want(0, 1, 9, 9);
        sales("another GOOD is something, too: by in 1 and 5", Due.loaded(two + "stall 1 at 1 sells 1 pieces 9 price 2 fixed;" + wants),
            new int[] {0, 0, 0, 1}, new int[] {5, 1, 0, 2});
        sales("another GOOD, by in 2", Due.loaded(two + "stall 1 at 2 sells 1 pieces 9 price 2 fixed;" + wants), new int[] {0, 0, 0, 1});
        sales("another GOOD, by in 3", Due.loaded(two + "stall 1 at 3 sells 1 pieces 9 price 2 fixed;" + wants),
            new int[] {0, 0, 0, 1}, new int[] {3, 1, 0, 2});
        sales("each for himself", still(4, stall(0, 20, 1, "fixed"), buyer(99, "slow"), buyer(99, "slow"), want(0, 0, 9, 9),
            want(1, 0, 9, 9)),
            new int[] {0, 0, 0, 1}, new int[] {0, 0, 1, 1}, new int[] {3, 0, 0, 1}, new int[] {3, 0, 1, 1});
    }

    private void fixed() {
        s.says(TERM, "What a STALL asks: fixed: its price;");
        int[] all = {0, 50, 99};
        for (int price : all) {
            TurningMarket x = Due.loaded("market places 2 minutes 4; ring turns 1 east;" + stall(0, 2, price, "fixed") + RICH + RICH
                + want(0, 0, 9, 99) + want(1, 0, 9, 0));
            prices("whoever buys or does not", x, 0, price, price, price, price);
        }
    }

    private static TurningMarket ring(String ring, String lines) {
        return Due.loaded("market places 3 minutes 7; ring turns " + ring + "; ring turns 1 east;" + lines);
    }

    private void falls() {
        s.says(TERM, "falls: so much less each time its RING has turned (0 at least);");
        prices("to 0 and no less", ring("1 east", stall(0, 9, 10, "falls 5")), 0, 10, 5, 0, 0, 0, 0, 0);
        prices("to 1, then 0", ring("1 west", stall(0, 9, 11, "falls 5")), 0, 11, 6, 1, 0, 0, 0, 0);
        prices("by 1", ring("1 east", stall(0, 9, 99, "falls 1")), 0, 99, 98, 97, 96, 95, 94, 93);
        prices("by 20", ring("1 east", stall(0, 9, 99, "falls 20")), 0, 99, 79, 59, 39, 19, 0, 0);
        prices("from 0", ring("1 east", stall(0, 9, 0, "falls 20")), 0, 0, 0, 0, 0, 0, 0, 0);
        prices("each third", ring("3 east", stall(0, 9, 10, "falls 2")), 0, 10, 10, 10, 8, 8, 8, 6);
        prices("never", ring("0 east", stall(0, 9, 10, "falls 2")), 0, 10, 10, 10, 10, 10, 10, 10);
        prices("stuck", ring("1 east", stall(0, 9, 10, "falls 2") + "stuck 0 from 2 to 4;"), 0, 10, 8, 8, 8, 8, 6, 4);
        prices("another RING is stuck", ring("1 east", stall(0, 9, 10, "falls 1") + "stuck 1 from 2 to 4;"), 0, 10, 9, 8, 7, 6, 5, 4);
        prices("whoever buys", ring("0 east", stall(0, 9, 10, "falls 2") + RICH + want(0, 0, 9, 99)), 0, 10, 10, 10, 10);
        prices("whoever does not", ring("0 east", stall(0, 9, 10, "falls 2") + RICH + want(0, 0, 9, 9)), 0, 10, 10, 10, 10);
    }

    private void learnsMore() {
        s.says(TERM, "learns: as a MINUTE ends in which it sold, so much more (99 at most);");
        prices("from each", still(4, stall(0, 9, 10, "learns 7"), RICH, want(0, 0, 9, 99)), 0, 10, 17, 24, 31);
        prices("to 99", still(4, stall(0, 9, 97, "learns 1"), RICH, want(0, 0, 9, 99)), 0, 97, 98, 99, 99);
        prices("to 99, not beyond", still(4, stall(0, 9, 80, "learns 20"), RICH, want(0, 0, 9, 99)), 0, 80, 99, 99, 99);
        prices("from 99", still(3, stall(0, 9, 99, "learns 20"), RICH, want(0, 0, 9, 99)), 0, 99, 99, 99);
        prices("from the last piece", still(4, stall(0, 2, 10, "learns 7"), RICH, want(0, 0, 9, 99)), 0, 10, 17, 24, 24);
        TurningMarket two = still(2, stall(0, 9, 10, "learns 7"), RICH, RICH, want(0, 0, 9, 99), want(1, 0, 9, 99));
        prices("once of two", two, 0, 10, 17);
        sales("as it ends", two, new int[] {0, 0, 0, 10}, new int[] {0, 0, 1, 10}, new int[] {1, 0, 0, 17}, new int[] {1, 0, 1, 17});
        prices("another STALL sold", still(3, stall(0, 9, 10, "learns 7"), stall(1, 9, 10, "learns 2"), RICH, want(0, 1, 9, 99)),
            0, 10, 10, 10);
    }

    private void learnsLess() {
        s.says(TERM, "in which it sold nothing,");
        TurningMarket both = still(3, stall(0, 9, 8, "learns 3"), RICH, RICH, want(0, 0, 9, 7), want(1, 0, 9, 8));
        prices("too dear for one, sold to the other", both, 0, 8, 11, 8);
        TurningMarket other = still(3, stall(0, 9, 8, "learns 3"), RICH, RICH, want(0, 0, 9, 8), want(1, 0, 9, 7));
        prices("sold to one, too dear for the other", other, 0, 8, 11, 8);
        s.says(TERM, "has pieces,");
        prices("none from the beginning", still(3, stall(0, 0, 8, "learns 3"), RICH, want(0, 0, 9, 7)), 0, 8, 8, 8);
        prices("one", still(3, stall(0, 1, 8, "learns 3"), RICH, want(0, 0, 9, 4)), 0, 8, 5, 2);
        prices("none behind the first", still(4, stall(0, 1, 5, "learns 3"), RICH, want(0, 0, 9, 6)), 0, 5, 8, 8, 8);
        s.says(TERM, "so much less (0 at least).");
        prices("by 9", still(5, stall(0, 9, 20, "learns 9"), buyer(0, "eager"), want(0, 0, 1, 1)), 0, 20, 11, 2, 0, 9);
        prices("by 1", still(4, stall(0, 9, 3, "learns 1"), RICH, want(0, 0, 9, 0)), 0, 3, 2, 1, 0);
        prices("by 20", still(7, stall(0, 9, 99, "learns 20"), RICH, want(0, 0, 1, 0)), 0, 99, 79, 59, 39, 19, 0, 20);
        prices("once of two", still(3, stall(0, 9, 20, "learns 3"), RICH, RICH, want(0, 0, 9, 1), want(1, 0, 9, 2)), 0, 20, 17, 14);
    }

    private void learnsFromWhom() {
        s.says(TERM, "but a BUYER came to it (in that order) with a WANT of its GOOD that lacked some,");
        String dear = stall(0, 9, 50, "learns 3");
        prices("nobody", still(3, dear), 0, 50, 50, 50);
        prices("he stands elsewhere", still(3, dear, "buyer at 1 coins 9 habit eager;", want(0, 0, 9, 1)), 0, 50, 50, 50);
        prices("he has no WANT", still(3, dear, RICH), 0, 50, 50, 50);
        prices("a WANT of another GOOD", still(3, dear, RICH, want(0, 1, 9, 1)), 0, 50, 50, 50);
        prices("it is by in 1 and 3", Due.loaded("market places 2 minutes 5; ring turns 1 east; stall 0 at 1 sells 0 pieces 9 price 20 learns 9;"
            + RICH + want(0, 0, 9, 1)), 0, 20, 20, 11, 11, 2);
        String cheap = stall(0, 9, 5, "fixed");
        prices("he has all when he comes to it", still(3, cheap, dear, RICH, want(0, 0, 1, 9)), 1, 50, 50, 50);
        prices("he lacks another one then", still(3, cheap, dear, RICH, want(0, 0, 2, 9)), 1, 50, 47, 47);
        prices("he lacked some when he came to it", still(3, dear, cheap, RICH, want(0, 0, 1, 9)), 0, 50, 47, 47);
        prices("one of two came with nothing that lacked", still(4, cheap, dear, RICH, RICH, want(0, 0, 1, 9), want(1, 0, 2, 9)),
            1, 50, 47, 47, 47);
        prices("each habit", still(3, dear, buyer(9, "slow"), want(0, 0, 1, 9)), 0, 50, 47, 44);
        prices("each habit", still(3, dear, buyer(9, "thrifty"), want(0, 0, 1, 9)), 0, 50, 47, 44);
    }

    private void learnsTooDear() {
        s.says(TERM, "and it was too dear for his limit or his coins then:");
        prices("limit, and one above", still(4, stall(0, 9, 6, "learns 3"), RICH, want(0, 0, 9, 6)), 0, 6, 9, 6, 9);
        prices("one above limit", still(2, stall(0, 9, 7, "learns 3"), RICH, want(0, 0, 9, 6)), 0, 7, 4);
        prices("coins, and more", still(8, stall(0, 9, 6, "learns 3"), buyer(6, "eager"), want(0, 0, 9, 99)), 0, 6, 9, 6, 3, 0, 3, 0, 3);
        prices("one above his coins", still(2, stall(0, 9, 7, "learns 3"), buyer(6, "eager"), want(0, 0, 9, 99)), 0, 7, 4);
        prices("not too dear for one who waits", still(5, stall(0, 9, 5, "learns 1"), buyer(999, "slow"), want(0, 0, 9, 99)), 0,
            5, 6, 6, 6, 7);
        prices("too dear for one who waits", still(5, stall(0, 9, 8, "learns 3"), buyer(999, "slow"), want(0, 0, 9, 10)), 0, 8,
            11, 8, 8, 11);
        prices("his coins when he comes to it", still(3, stall(0, 9, 8, "fixed"), stall(1, 9, 5, "learns 1"), buyer(10, "eager"),
            want(0, 0, 1, 9), want(0, 1, 1, 9)), 1, 5, 4, 3);
        prices("his coins when he came to it", still(3, stall(1, 9, 5, "learns 1"), stall(0, 9, 5, "fixed"), buyer(10, "eager"),
            want(0, 0, 9, 9), want(0, 1, 9, 9)), 0, 5, 6, 5);
    }

    private void asks() {
        s.says("Promise 14", "What a STALL asks at the beginning of a MINUTE of the HOUR (II).");
        TurningMarket x = Due.loaded(Markets.SMALL);
        prices("fixed", x, 0, 10, 10, 10, 10, 10, 10);
        prices("falls", x, 1, 9, 9, 7, 7, 5, 5);
        prices("learns", x, 2, 4, 4, 4, 4, 7, 7);
        x.offer(2, 98);
        prices("offered", x, 2, 98, 98, 98, 98, 95, 95);
        s.says("Promise 14", "-2: there are none such.");
        s.edges("asks", g -> x.asks(g[0], g[1]), -2, of(2, 5), to(0, 2), to(0, 5));
        TurningMarket full = Due.loaded(ToldSentences.FULL);
        s.edges("asks", g -> full.asks(g[0], g[1]), -2, of(0, 0), to(0, 7), to(0, 59));
    }

    private void has() {
        s.says("Promise 15", "Pieces that it has at the end of a MINUTE.");
        TurningMarket x = Due.loaded(Markets.SMALL);
        int[][] due = {{3, 2, 2, 2, 2, 2}, {2, 2, 2, 1, 1, 1}, {1, 1, 1, 0, 0, 0}};
        for (int i = 0; i < 3; i++) {
            for (int m = 0; m < 6; m++) {
                s.due("has(" + i + ", " + m + ")", x.has(i, m), due[i][m]);
            }
        }
        TurningMarket one = still(1, stall(0, 20, 0, "fixed"), stall(0, 0, 0, "fixed"), RICH, want(0, 0, 9, 0));
        s.due("of the only MINUTE", one.has(0, 0), 19);
        s.due("none", one.has(1, 0), 0);
        s.says("Promise 15", "-2 likewise.");
        s.edges("has", g -> x.has(g[0], g[1]), -2, of(2, 5), to(0, 2), to(0, 5));
        TurningMarket full = Due.loaded(ToldSentences.FULL);
        s.edges("has", g -> full.has(g[0], g[1]), -2, of(0, 0), to(0, 7), to(0, 59));
    }

    private void sold() {
        TurningMarket x = Due.loaded(Markets.SMALL);
        TurningMarket more = still(4, stall(0, 9, 5, "learns 2"), stall(1, 9, 50, "fixed"), stall(0, 9, 0, "fixed"),
            buyer(40, "eager"), want(0, 0, 9, 12), want(0, 1, 1, 12));
        int[][] small = {{1, 10, 1}, {1, 7, 3}, {1, 4, 3}};
        // stall 0 sells for 5, 7, 9 and 11, stall 1 nothing, stall 2 in each MINUTE for nothing
        int[][] many = {{4, 32, 0}, {0, 0, -1}, {4, 0, 0}};
        String[] sentences = {"Of a STALL by the HOUR, what 0: pieces sold,", "1: what it takes,",
            "2: the MINUTE of its first sale (NONE)."};
        for (int what = 0; what < 3; what++) {
            s.says("Promise 16", sentences[what]);
            for (int i = 0; i < 3; i++) {
                s.due("small: sold(" + i + ", " + what + ")", x.sold(i, what), small[i][what]);
                s.due("more: sold(" + i + ", " + what + ")", more.sold(i, what), many[i][what]);
            }
        }
        TurningMarket last = Due.loaded("market places 12 minutes 60; ring turns 59 west;" + stall(0, 9, 5, "fixed")
            + "buyer at 11 coins 5 habit eager;" + want(0, 0, 1, 5));
        s.due("in the last MINUTE", last.sold(0, 2), 59);
        s.says("Promise 16", "-2: there are none such.");
        s.edges("sold", g -> x.sold(g[0], g[1]), -2, of(2, 0), to(0, 2), to(0, 2));
        TurningMarket full = Due.loaded(ToldSentences.FULL);
        s.edges("sold", g -> full.sold(g[0], g[1]), -2, of(0, 2), to(0, 7), to(0, 2));
    }

    private void bought() {
        TurningMarket x = still(3, stall(0, 4, 2, "fixed"), "stall 0 at 1 sells 0 pieces 4 price 0 fixed;",
            buyer(9, "eager"), buyer(9, "slow"), "buyer at 3 coins 7 habit eager;", buyer(0, "eager"), "buyer at 1 coins 0 habit thrifty;",
            want(0, 0, 2, 2), want(1, 0, 1, 2), want(3, 0, 1, 2), want(3, 1, 8, 2), want(4, 0, 3, 0));
        int[][] due = {{2, 4, 0, 1}, {1, 2, 0, 0}, {0, 0, 0, 0}, {0, 0, 9, -1}, {3, 0, 0, 2}};
        String[] sentences = {"Of a BUYER by the HOUR, what 0: pieces,", "1: what he spends,", "2: pieces that he wants still,",
            "3: the MINUTE in which he has all (0, if he wants nothing; NONE: he has not)."};
        for (int what = 0; what < 4; what++) {
            s.says("Promise 17", sentences[what]);
            for (int b = 0; b < 5; b++) {
                s.due("bought(" + b + ", " + what + ")", x.bought(b, what), due[b][what]);
            }
        }
        TurningMarket some = still(3, stall(0, 2, 2, "fixed"), stall(1, 9, 1, "fixed"), RICH, want(0, 0, 3, 9), want(0, 1, 1, 9));
        s.due("one WANT of two is had", some.bought(0, 3), -1);
        TurningMarket late = still(2, stall(0, 2, 2, "fixed"), stall(1, 9, 1, "fixed"), RICH, want(0, 0, 1, 9), want(0, 1, 2, 9));
        s.due("the MINUTE of the last of both", late.bought(0, 3), 1);
        s.says("Promise 17", "-2: there are none such.");
        s.edges("bought", g -> x.bought(g[0], g[1]), -2, of(4, 0), to(0, 4), to(0, 3));
        TurningMarket full = Due.loaded(ToldSentences.FULL);
        s.edges("bought", g -> full.bought(g[0], g[1]), -2, of(0, 3), to(0, 5), to(0, 3));
    }

    private void coins() {
        s.says("Promise 18", "Coins of a BUYER at the end of a MINUTE.");
        TurningMarket x = Due.loaded(Markets.SMALL);
        int[][] due = {{30, 20, 20, 16, 16, 16}, {12, 12, 12, 5, 5, 5}};
        for (int b = 0; b < 2; b++) {
            for (int m = 0; m < 6; m++) {
                s.due("coins(" + b + ", " + m + ")", x.coins(b, m), due[b][m]);
            }
        }
        TurningMarket one = still(1, stall(0, 20, 9, "fixed"), buyer(9, "eager"), RICH, want(0, 0, 9, 9));
        s.due("to the last", one.coins(0, 0), 0);
        s.due("none spent", one.coins(1, 0), 999);
        s.says("Promise 18", "-2: there are none such.");
        s.edges("coins", g -> x.coins(g[0], g[1]), -2, of(1, 5), to(0, 1), to(0, 5));
        TurningMarket full = Due.loaded(ToldSentences.FULL);
        s.edges("coins", g -> full.coins(g[0], g[1]), -2, of(0, 0), to(0, 5), to(0, 59));
    }

    private void sale() {
        TurningMarket x = Due.loaded(Markets.SMALL);
        int[][] due = {{1, 0, 0, 10}, {3, 2, 0, 4}, {3, 1, 1, 7}};
        String[] sentences = {"Of SALE i (in order), what 0: MINUTE,", "1: STALL,", "2: BUYER,", "3: price."};
        for (int what = 0; what < 4; what++) {
            s.says("Promise 19", sentences[what]);
            for (int i = 0; i < 3; i++) {
                s.due("sale(" + i + ", " + what + ")", x.sale(i, what), due[i][what]);
            }
        }
        s.says("Promise 19", "NONE: there is none such;");
        int[] others = {-1, 3, 4, 160, Integer.MIN_VALUE, Integer.MAX_VALUE};
        for (int i : others) {
            for (int what = 0; what < 4; what++) {
                s.due("sale(" + i + ", " + what + ")", x.sale(i, what), -1);
            }
        }
        s.due("without SALES", Due.loaded(Markets.BARE).sale(0, 0), -1);
        s.says("Promise 19", "-2: there is no such what, no MARKET.");
        int[] whats = {-1, 4, Integer.MIN_VALUE, Integer.MAX_VALUE};
        for (int what : whats) {
            s.due("sale(0, " + what + ")", x.sale(0, what), -2);
            s.due("sale(2, " + what + ")", x.sale(2, what), -2);
        }
        s.due("sale(0, 0) without a MARKET", new TurningMarket().sale(0, 0), -2);
        s.due("sale(-1, 3) without a MARKET", new TurningMarket().sale(-1, 3), -2);
    }

    private void inAll() {
        TurningMarket x = Due.loaded(Markets.SMALL);
        TurningMarket more = still(4, stall(0, 9, 5, "learns 2"), stall(1, 9, 50, "fixed"), buyer(40, "thrifty"), buyer(3,
            "slow"), RICH, RICH,
            want(0, 0, 9, 12), want(0, 1, 1, 12), want(1, 0, 9, 99), want(2, 0, 1, 99));
        TurningMarket bare = Due.loaded(Markets.BARE);
        // more: in 0 to buyers 0 and 2 for 5, in 2 and 3 to buyer 0 for 5 and 7: in 1 it is too dear for the 3 coins of buyer 1
        int[][] due = {{3, 4, 0}, {21, 22, 0}, {0, 16, 0}, {2, 2, 0}};
        int[] offered = {2, 11, 1, 1};
        String[] sentences = {"In all, what 0: SALES,", "1: what is paid,", "2: pieces that are wanted still,", "3: BUYERS who have all,"};
        for (int what = 0; what < 4; what++) {
            s.says("Promise 20", sentences[what]);
            s.due("small: all(" + what + ")", x.all(what), due[what][0]);
            s.due("more: all(" + what + ")", more.all(what), due[what][1]);
            s.due("bare: all(" + what + ")", bare.all(what), due[what][2]);
            x.offer(0, 99);
            s.due("offered: all(" + what + ")", x.all(what), offered[what]);
            x.offer(0, 10);
        }
        s.says("Promise 20", "-2: there is no such what, no MARKET.");
        s.edges("all", g -> x.all(g[0]), -2, of(0), to(0, 4));
        s.edges("all", g -> bare.all(g[0]), -2, of(0), to(0, 4));
        for (int what = 0; what < 5; what++) {
            s.due("all(" + what + ") without a MARKET", new TurningMarket().all(what), -2);
        }
    }

    private void busiest() {
        s.says("Promise 20", "4: the MINUTE with most SALES, the first of several (NONE: there are none).");
        s.due("small", Due.loaded(Markets.SMALL).all(4), 3);
        s.due("without BUYERS", Due.loaded(Markets.BARE).all(4), -1);
        s.due("without SALES", still(3, stall(0, 9, 5, "fixed"), RICH, want(0, 0, 9, 4)).all(4), -1);
        String stall = stall(0, 20, 3, "fixed");
        s.due("one in each of three", still(5, stall, RICH, want(0, 0, 3, 9)).all(4), 0);
        s.due("1 1 2 2", still(4, stall, RICH, buyer(99, "thrifty"), want(0, 0, 9, 9), want(1, 0, 9, 5)).all(4), 2);
        s.due("2 2 1 1", still(4, stall, RICH, RICH, want(0, 0, 9, 9), want(1, 0, 2, 9)).all(4), 0);
        String two = "market places 4 minutes 4; ring turns 0 east; ring turns 1 west;" + stall + RICH + want(0, 0, 9, 9)
            + want(0, 1, 9, 9);
        s.due("1 2 1 1", Due.loaded(two + "stall 1 at 1 sells 1 pieces 9 price 1 fixed;").all(4), 1);
        s.due("1 1 1 2", Due.loaded(two + "stall 1 at 3 sells 1 pieces 9 price 1 fixed;").all(4), 3);
        s.due("the last alone", Due.loaded("market places 12 minutes 60; ring turns 59 east;" + stall + "buyer at 1 coins 9 habit eager;"
            + want(0, 0, 3, 9)).all(4), 59);
    }
}
