/** Promises 1 to 5: a new object, the tape, and how it is read. */
public final class ReadTest {
    private static final Due DUE = new Due("ReadTest");
    private static final String HEAD = "market places 4 minutes 6;";

    public static void main(String[] args) {
        newObject();
        tape();
        wholeTexts();
        tokens();
        numbers();
        tooMany();
        whatAFaultLeaves();
        oneBehindAnother();
        tapesCut();
        DUE.finish();
    }

    private static void newObject() {
        TurningMarket x = new TurningMarket();
        DUE.due("NONE", TurningMarket.NONE, -1);
        for (int what = 0; what <= 8; what++) {
            DUE.due("new: count(" + what + ")", x.count(what), 0);
        }
        DUE.due("new: fault(0)", x.fault(0), 0);
        DUE.due("new: fault(1)", x.fault(1), -1);
        DUE.due("new: fault(2)", x.fault(2), -1);
        DUE.due("new: stall(0, 0)", x.stall(0, 0), -2);
        DUE.due("new: all(0)", x.all(0), -2);
        DUE.due("new: again()", x.again(), -2);
        DUE.due("new: harm(0, 0)", x.harm(0, 0), -2000000);
        DUE.due("new: back(0)", x.back(0), -6);
        DUE.due("new: write(0, 0, 0)", x.write(0, 0, 0), -6);
    }

    private static void tape() {
        TurningMarket x = new TurningMarket();
        DUE.due("end(0) of nothing", x.end(0), 0);
        DUE.due("end(1) of nothing", x.end(1), -1);
        for (int n = 1; n <= 100; n++) {
            DUE.due("feed " + n, x.feed(0x6d61726b, 0x65742020, 0x20202020, 0x20202020, 0x20202020), 20 * n);
        }
        DUE.due("feed 101", x.feed(0, 0, 0, 0, 0), -1);
        DUE.due("count(6)", x.count(6), 2000);
        DUE.due("end(2001)", x.end(2001), -1);
        DUE.due("end(-1)", x.end(-1), -1);
        DUE.due("end(1981)", x.end(1981), 1981);
        DUE.due("feed beyond by one", x.feed(0, 0, 0, 0, 0), -1);
        DUE.due("end(1981) again", x.end(1981), 1981);
        DUE.due("end(1980)", x.end(1980), 1980);
        DUE.due("feed that just fits", x.feed(0, 0, 0, 0, 0), 2000);
        DUE.due("end(40)", x.end(40), 40);
        DUE.due("market()", x.market(), -4);
        DUE.due("fault(1)", x.fault(1), 20);
        DUE.due("count(6) behind market()", x.count(6), 0);
        x.feed(0x6d61726b, 0x65742070, 0x6c616365, 0x73203920, 0x6d696e75);
        x.feed(0x74657320, 0x353b8080, -1, -1, -1);
        DUE.due("end(26)", x.end(26), 26);
        DUE.due("market() of bytes, the highest first", x.market(), 1);
        DUE.due("count(0)", x.count(0), 9);
        DUE.due("count(1)", x.count(1), 5);
    }

    private static void wholeTexts() {
        good("", 0);
        good(" \n \n", 0);
        good(HEAD, 1);
        good("market places 2 minutes 1;", 1);
        good("market places 12 minutes 60;", 1);
        good("\nmarket\nplaces 4minutes6\n;\n", 1);
        good("market places4minutes 6;ring turns0west;ring turns 60 east;", 3);
        good(Markets.SMALL, 10);
        good(HEAD + "ring turns 0 east;stuck 0 from 0 to 0;stuck 0 from 5 to 5;stuck 0 from 0 to 5;", 5);
        good(HEAD + "ring turns 0 east;stall 0 at 3 sells 5 pieces 20 price 99 fixed;"
            + "stall 0 at 0 sells 0 pieces 0 price 0 falls 20;stall 0 at 0 sells 0 pieces 0 price 0 learns 1;", 5);
        good(HEAD + "buyer at 3 coins 999 habit slow;wants 0 5 pieces 9 limit 99;buyer at 0 coins 0 habit eager;"
            + "wants 1 0 pieces 1 limit 0;wants 0 0 pieces 1 limit 0;", 6);
        good("market places 0000000000000000000012 minutes 06;", 1);
        TurningMarket x = Due.loaded(HEAD);
        DUE.due("blanks in place of a market", Due.load(x, "  \n"), 0);
        DUE.due("no market behind it", x.count(0), 0);
        DUE.due("no market behind it", x.all(0), -2);
    }

    private static void tokens() {
        bad("market", 1, 6);
        bad("market places 4 minutes 6", 1, 25);
        bad("market places 4 minutes 6 \n ", 1, 28);
        bad("Market places 4 minutes 6;", 1, 0);
        bad("markets places 4 minutes 6;", 1, 0);
        bad("marke places 4 minutes 6;", 1, 0);
        bad("barket places 4 minutes 6;", 1, 0);
        bad("markez places 4 minutes 6;", 1, 0);
        bad(" ring turns 1 east;", 1, 1);
        bad(";", 1, 0);
        bad("4", 1, 0);
        bad("market places four minutes 6;", 1, 14);
        bad("market 4 places minutes 6;", 1, 7);
        bad("market places 4 minutes 6 ring turns 1 east;", 1, 26);
        bad(HEAD + ";", 1, 26);
        bad(HEAD + HEAD, 1, 26);
        bad(HEAD + "rings turns 1 east;", 1, 26);
        bad(HEAD + "ring turns 1 north;", 1, 39);
        bad(HEAD + "ring turns 1 ;", 1, 39);
        bad(HEAD + "ring turns 1 east west;", 1, 44);
        bad(HEAD + "ring turns east;", 1, 37);
        bad(HEAD + "ring turns 1 east!;", 1, 43);
        bad(HEAD + "\t", 1, 26);
        bad(HEAD + "\r\n", 1, 26);
        bad(HEAD + (char) 0, 1, 26);
        bad(HEAD + (char) 236, 1, 26);
        bad(HEAD + "ring turns -1 east;", 1, 37);
        bad(HEAD + "ring turns 1 ea" + (char) 115 + "t", 1, 43);
        bad(HEAD + "buyer at 0 coins 1 habit lazy;", 1, 51);
        bad(HEAD + "buyer at 0 coins 1 habit 1;", 1, 51);
        bad(HEAD + "ring turns 1 east;stall 0 at 0 sells 0 pieces 0 price 0 steady;", 1, 82);
        bad(HEAD + "ring turns 1 east;stall 0 at 0 sells 0 pieces 0 price 0 fixed 1;", 1, 88);
        bad(HEAD + "ring turns 1 east;stall 0 at 0 sells 0 pieces 0 price 0 falls;", 1, 87);
        // a fault ahead of another one
        bad("market places 99 minutes ? 6;", 2, 14);
        bad("market places ? minutes 99;", 1, 14);
    }

    private static void numbers() {
        bad("market places 1 minutes 6;", 2, 14);
        bad("market places 13 minutes 6;", 2, 14);
        bad("market places 4 minutes 0;", 2, 24);
        bad("market places 4 minutes 61;", 2, 24);
        bad("market places 4294967300 minutes 6;", 2, 14);
        bad("market places 18446744073709551620 minutes 6;", 2, 14);
        bad(HEAD + "ring turns 61 east;", 2, 37);
        String ring = HEAD + "ring turns 1 east;";
        bad(HEAD + "stall 0 at 0 sells 0 pieces 0 price 0 fixed;", 2, 32);
        bad(ring + "stall 1 at 0 sells 0 pieces 0 price 0 fixed;", 2, 50);
        bad(ring + "stall 0 at 4 sells 0 pieces 0 price 0 fixed;", 2, 55);
        bad(ring + "stall 0 at 0 sells 6 pieces 0 price 0 fixed;", 2, 63);
        bad(ring + "stall 0 at 0 sells 0 pieces 21 price 0 fixed;", 2, 72);
        bad(ring + "stall 0 at 0 sells 0 pieces 0 price 100 fixed;", 2, 80);
        bad(ring + "stall 0 at 0 sells 0 pieces 0 price 0 falls 0;", 2, 88);
        bad(ring + "stall 0 at 0 sells 0 pieces 0 price 0 falls 21;", 2, 88);
        bad(ring + "stall 0 at 0 sells 0 pieces 0 price 0 learns 0;", 2, 89);
        bad(ring + "stall 0 at 0 sells 0 pieces 0 price 0 learns 21;", 2, 89);
        bad(HEAD + "buyer at 4 coins 0 habit slow;", 2, 35);
        bad(HEAD + "buyer at 0 coins 1000 habit slow;", 2, 43);
        bad(HEAD + "wants 0 0 pieces 1 limit 0;", 2, 32);
        String buyer = HEAD + "buyer at 0 coins 0 habit slow;";
        bad(buyer + "wants 1 0 pieces 1 limit 0;", 2, 62);
        bad(buyer + "wants 0 6 pieces 1 limit 0;", 2, 64);
        bad(buyer + "wants 0 0 pieces 0 limit 0;", 2, 73);
        bad(buyer + "wants 0 0 pieces 10 limit 0;", 2, 73);
        bad(buyer + "wants 0 0 pieces 1 limit 100;", 2, 81);
        bad(buyer + "wants 0 3 pieces 1 limit 0;wants 0 3 pieces 1 limit 0;", 2, 91);
        bad(HEAD + "stuck 0 from 0 to 0;", 2, 32);
        bad(ring + "stuck 0 from 6 to 6;", 2, 57);
        bad(ring + "stuck 0 from 0 to 6;", 2, 62);
        bad(ring + "stuck 0 from 3 to 2;", 2, 62);
    }

    private static void tooMany() {
        String rings = HEAD + "ring turns 1 east;".repeat(3);
        good(rings, 4);
        bad(rings + "ring turns 1 east;", 3, rings.length());
        String stalls = rings + "stall 2 at 0 sells 0 pieces 0 price 0 fixed;".repeat(8);
        good(stalls, 12);
        bad(stalls + " stall nonsense", 3, stalls.length() + 1);
        String buyers = HEAD + "buyer at 0 coins 0 habit slow;".repeat(6);
        good(buyers, 7);
        bad(buyers + "buyer", 3, buyers.length());
        String stucks = rings + "stuck 1 from 0 to 1;".repeat(4);
        good(stucks, 8);
        bad(stucks + "stuck 9", 3, stucks.length());
        String wants = HEAD + "buyer at 0 coins 0 habit slow;wants 0 1 pieces 1 limit 1;"
            + "wants 0 2 pieces 1 limit 1;wants 0 3 pieces 1 limit 1;";
        good(wants, 5);
        bad(wants + "wants 0 4", 3, wants.length() + 6);
        bad(wants + "wants 1 4", 2, wants.length() + 6);
        good(wants + "buyer at 1 coins 0 habit slow;wants 1 4 pieces 1 limit 1;", 7);
    }

    private static void whatAFaultLeaves() {
        TurningMarket x = Due.loaded(Markets.SMALL);
        x.row(1, 0, 2);
        DUE.due("a text with a fault", Due.load(x, "market places 5 minutes 9; ring"), -4);
        DUE.due("fault(0)", x.fault(0), 1);
        DUE.due("fault(1)", x.fault(1), 31);
        DUE.due("fault(2)", x.fault(2), -1);
        DUE.due("fault(-1)", x.fault(-1), -1);
        DUE.due("the tape is empty", x.count(6), 0);
        DUE.due("the market stays", x.count(0), 4);
        DUE.due("the market stays", x.count(5), 10);
        DUE.due("the market stays", x.all(1), 21);
        DUE.due("the rows stay", x.count(8), 1);
        DUE.due("another text", Due.load(x, Markets.BARE), 1);
        DUE.due("fault(0) without", x.fault(0), 0);
        DUE.due("fault(1) without", x.fault(1), -1);
        DUE.due("in place of the other", x.count(3), 0);
        DUE.due("in place of the other", x.count(4), 0);
        DUE.due("the tape again", Due.load(x, "ring turns 1 east;"), -4);
    }

    /** Nothing of an earlier market is in a later one. */
    private static void oneBehindAnother() {
        TurningMarket x = Due.loaded(Markets.SMALL);
        String stuck = HEAD + "ring turns 1 east;" + "stuck 0 from 0 to 1;".repeat(4);
        for (int n = 0; n < 3; n++) {
            DUE.due("market() of four stuck", Due.load(x, stuck), 6);
            DUE.due("sales without buyers", x.all(0), 0);
            DUE.due("market()", Due.load(x, Markets.SMALL), 10);
            DUE.due("sales of the other", x.all(0), 3);
            DUE.due("market() of plain ones", Due.load(x, HEAD + "ring turns 1 west;"
                + "stall 0 at 0 sells 0 pieces 1 price 1 fixed;".repeat(3)
                + "buyer at 0 coins 1 habit eager;".repeat(2) + "wants 0 0 pieces 1 limit 1;"), 8);
            DUE.due("its kind", x.stall(1, 5) + x.stall(2, 5), 0);
            DUE.due("its step", x.stall(1, 6) + x.stall(2, 6), 0);
            DUE.due("his habit", x.buyer(1, 2), 0);
            DUE.due("his wants", x.buyer(1, 3), 0);
            DUE.due("what was stuck", x.count(7), 0);
            DUE.due("its sales", x.all(0), 1);
        }
        DUE.due("an empty tape", x.market(), 0);
        for (int what = 0; what < 9; what++) {
            DUE.due("no market: count(" + what + ")", x.count(what), 0);
        }
        DUE.due("no market: least(0)", x.least(0), -2);
        DUE.due("no market: round(0, 0)", x.round(0, 0), -2);
    }

    /** What was on the tape behind its end does not count. */
    private static void tapesCut() {
        cut("marketers places 4 minutes 6;", 6, 1, 6);
        cut("market places 4 minutes 61;", 25, 1, 25);
        cut("market places 4 minutes 6    ;", 26, 1, 26);
        cut("market places 4 minutes 6;;", 26, 0, -1);
        String full = HEAD + " ".repeat(2000 - HEAD.length());
        good(full, 1);
        bad(full.substring(0, 1999) + "x", 1, 1999);
        bad(full.substring(0, 1999) + "7", 1, 1999);
        bad(full.substring(0, 1982) + "ring turns 60 east", 1, 2000);
        good(full.substring(0, 1981) + "ring turns 60 east;", 2);
    }

    private static void cut(String text, int n, int fault, int place) {
        TurningMarket x = new TurningMarket();
        Due.feed(x, text);
        DUE.due("end(" + n + ")", x.end(n), n);
        DUE.due("market() of <" + text + "> cut at " + n, x.market(), fault == 0 ? 1 : -4);
        DUE.due("fault(0)", x.fault(0), fault);
        DUE.due("fault(1)", x.fault(1), place);
    }

    private static void good(String text, int lines) {
        TurningMarket x = new TurningMarket();
        DUE.due("market() of <" + text + ">", Due.load(x, text), lines);
        DUE.due("fault(0) of <" + text + ">", x.fault(0), 0);
        DUE.due("fault(1) of <" + text + ">", x.fault(1), -1);
    }

    private static void bad(String text, int fault, int place) {
        TurningMarket x = new TurningMarket();
        DUE.due("market() of <" + text + ">", Due.load(x, text), -4);
        DUE.due("fault(0) of <" + text + ">", x.fault(0), fault);
        DUE.due("fault(1) of <" + text + ">", x.fault(1), place);
        DUE.due("count(5) of <" + text + ">", x.count(5), 0);
    }
}
