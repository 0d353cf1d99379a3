/** The sentences of term I that tell the text, and of promises 1 to 5. */
final class TextSentences extends SentenceGroup {
    private static final String HEAD = "market places 4 minutes 6;";
    private static final String RING = "ring turns 1 east;";
    private static final String STALL = "stall 0 at 0 sells 0 pieces 1 price 1 fixed;";
    private static final String BUYER = "buyer at 0 coins 1 habit eager;";
    private static final String WANT = "wants 0 0 pieces 1 limit 1;";
    private static final String STUCK = "stuck 0 from 0 to 0;";
    private static final String TERM = "Term I";

    TextSentences(Sentences sentences) {
        super(sentences);
    }

    @Override
    void all() {
        lines();
        tokensOfLines();
        headLine();
        ringLines();
        stallLines();
        buyerLines();
        wantLines();
        stuckLines();
        tokens();
        faultsByPlace();
        faultsByKind();
        tooMany();
        newObject();
        feed();
        feedFull();
        end();
        market();
        oneBehindAnother();
        whatAFaultLeaves();
        fault();
    }

    private void good(String text, int lines) {
        TurningMarket x = new TurningMarket();
        s.due("market() of <" + text + ">", Due.load(x, text), lines);
        s.due("fault(0) of <" + text + ">", x.fault(0), 0);
        s.due("fault(1) of <" + text + ">", x.fault(1), -1);
        s.due("count(5) of <" + text + ">", x.count(5), lines);
    }

    private void bad(String text, int fault, int place) {
        TurningMarket x = new TurningMarket();
        s.due("market() of <" + text + ">", Due.load(x, text), -4);
        s.due("fault(0) of <" + text + ">", x.fault(0), fault);
        s.due("fault(1) of <" + text + ">", x.fault(1), place);
        s.due("count(5) of <" + text + ">", x.count(5), 0);
    }

    /** The sign ^ stands ahead of the place of the fault, and is no part of the text. */
    private void bad(String marked, int fault) {
        int place = marked.indexOf('^');
        bad(marked.substring(0, place) + marked.substring(place + 1), fault, place);
    }

    /** A number between two parts of a text: its bounds on both sides, and numbers that wrap round to one within. */
    private void bounds(String ahead, String behind, int low, int high) {
        int lines = (int) (ahead + behind).chars().filter(c -> c == ';').count();
        good(ahead + low + behind, lines);
        good(ahead + high + behind, lines);
        good(ahead + "000000000000000000000000" + low + behind, lines);
        String[] beyond = {"" + (high + 1), "" + (high + 10), "" + (high + 256L), "" + (high + 65536L),
            "" + (low + 4294967296L), "2147483647", "2147483648", "999999999999999999999999"};
        for (String number : beyond) {
            bad(ahead + number + behind, 2, ahead.length());
        }
        bad(ahead + new java.math.BigInteger("18446744073709551616").add(java.math.BigInteger.valueOf(low)) + behind, 2, ahead.length());
        if (low > 0) {
            bad(ahead + (low - 1) + behind, 2, ahead.length());
        }
        bad(ahead + "-" + low + behind, 1, ahead.length());
    }

    private void lines() {
        s.says(TERM, "MARKET: {LINE ;}.");
        good("", 0);
        good(HEAD, 1);
        good(HEAD + RING, 2);
        good(HEAD + RING + STALL + BUYER + WANT + STUCK, 6);
        good(HEAD + BUYER + WANT + RING + STUCK + STALL + RING + BUYER, 8);
        bad("^;", 1);
        bad(HEAD + "^;", 1);
        bad(HEAD + RING + "^;" + RING, 1);
        bad("market places 4 minutes 6^", 1);
        bad(HEAD + "ring turns 1 east^", 1);
        bad(HEAD + "ring turns 1 east ^ring turns 1 east;", 1);
    }

    private void tokensOfLines() {
        s.says(TERM, "LINE: market places N minutes N | ring turns N east | ring turns N west | stall R at N sells G pieces N price N KIND"
            + " | buyer at N coins N habit HABIT | wants B G pieces N limit N | stuck R from N to N.");
        String all = HEAD + RING + STALL + BUYER;
        spoilt("", "market places 4 minutes 6 ;");
        spoilt(HEAD, "ring turns 1 east ;");
        spoilt(HEAD, "ring turns 1 west ;");
        spoilt(HEAD + RING, "stall 0 at 3 sells 5 pieces 2 price 7 fixed ;");
        spoilt(HEAD + RING, "stall 0 at 3 sells 5 pieces 2 price 7 falls 3 ;");
        spoilt(HEAD + RING, "stall 0 at 3 sells 5 pieces 2 price 7 learns 3 ;");
        spoilt(all, "buyer at 2 coins 8 habit eager ;");
        spoilt(all, "buyer at 2 coins 8 habit thrifty ;");
        spoilt(all, "buyer at 2 coins 8 habit slow ;");
        spoilt(all, "wants 0 4 pieces 3 limit 9 ;");
        spoilt(all, "stuck 0 from 1 to 2 ;");
    }

    /** A line as it is, and with each of its tokens in turn changed for one that can't stand there. */
    private void spoilt(String ahead, String line) {
        int before = (int) ahead.chars().filter(c -> c == ';').count();
        good(ahead + line, before + 1);
        int from = 0;
        for (String token : line.split(" ")) {
            int place = ahead.length() + from;
            String start = ahead + line.substring(0, from);
            String rest = line.substring(from + token.length());
            boolean isNumber = Character.isDigit(token.charAt(0));
            bad(start + "?" + rest, 1, place);
            bad(start + "xyzzy" + rest, 1, place);
            bad(start + "turn" + rest, 1, place);
            bad(start + (isNumber ? "east" : "1") + rest, 1, place);
            if (!token.equals(";")) {
                bad(start + ";" + rest, 1, place);
            }
            if (from > 0) {
                bad(start, 1, start.length());
            }
            if (Character.isLetter(token.charAt(0))) {
                bad(start + token + "s" + rest, 1, place);
                bad(start + token.substring(0, token.length() - 1) + rest, 1, place);
                bad(start + "z" + token.substring(1) + rest, 1, place);
                bad(start + token.substring(0, token.length() - 1) + "z" + rest, 1, place);
            }
            from += token.length() + 1;
        }
        bad(ahead + line + ";", 1, ahead.length() + line.length());
    }

    private void headLine() {
        s.says(TERM, "market is the first LINE and no other:");
        good(HEAD, 1);
        bad(HEAD + "^" + HEAD, 1);
        bad(HEAD + RING + STALL + BUYER + "^market places 2 minutes 1;", 1);
        bad(HEAD + "^market", 1);
        bad("^" + RING + HEAD, 1);
        bad("^" + BUYER + HEAD, 1);
        s.says(TERM, "places 2 .. 12,");
        bounds("market places ", " minutes 6;", 2, 12);
        s.says(TERM, "minutes 1 .. 60.");
        bounds("market places 4 minutes ", ";", 1, 60);
    }

    private void ringLines() {
        s.says(TERM, "turns 0 .. 60 (0: never).");
        bounds(HEAD + "ring turns ", " east;", 0, 60);
        bounds(HEAD + RING + "ring turns ", " west;", 0, 60);
        TurningMarket x = Due.loaded("market places 3 minutes 60; ring turns 0 east; ring turns 0 west; stall 0 at 1 sells 0 pieces 0"
            + " price 0 fixed; stall 1 at 2 sells 0 pieces 0 price 0 fixed;");
        for (int m = 0; m < 60; m++) {
            s.due("at(0, " + m + ") of turns 0", x.at(0, m), 1);
            s.due("at(1, " + m + ") of turns 0", x.at(1, m), 2);
        }
        s.says(TERM, "R a RING told ahead;");
        String behind = " at 0 sells 0 pieces 1 price 1 fixed;";
        bad(HEAD + "stall ^0" + behind, 2);
        bad(HEAD + "stall ^0" + behind + RING, 2);
        bounds(HEAD + RING + "stall ", behind, 0, 0);
        bounds(HEAD + RING + RING + "stall ", behind, 0, 1);
        bounds(HEAD + RING + RING + RING + "stall ", behind, 0, 2);
        bad(HEAD + RING + "stall ^1" + behind + RING, 2);
        bad(HEAD + "stuck ^0 from 0 to 0;", 2);
        bad(HEAD + "stuck ^0 from 0 to 0;" + RING, 2);
        bounds(HEAD + RING + "stuck ", " from 0 to 0;", 0, 0);
        bounds(HEAD + RING + RING + "stuck ", " from 0 to 0;", 0, 1);
        bounds(HEAD + RING + RING + RING + "stuck ", " from 0 to 0;", 0, 2);
    }

    private void stallLines() {
        s.says(TERM, "at a PLACE (a SPOT of a STALL) 0 .. places less 1;");
        int[] sizes = {2, 4, 12};
        for (int places : sizes) {
            String head = "market places " + places + " minutes 6;";
            bounds(head + RING + "stall 0 at ", " sells 0 pieces 1 price 1 fixed;", 0, places - 1);
            bounds(head + "buyer at ", " coins 1 habit slow;", 0, places - 1);
        }
        s.says(TERM, "G 0 .. 5;");
        bounds(HEAD + RING + "stall 0 at 0 sells ", " pieces 1 price 1 fixed;", 0, 5);
        bounds(HEAD + BUYER + "wants 0 ", " pieces 1 limit 1;", 0, 5);
        s.says(TERM, "pieces of a STALL 0 .. 20,");
        bounds(HEAD + RING + "stall 0 at 0 sells 0 pieces ", " price 1 fixed;", 0, 20);
        s.says(TERM, "price 0 .. 99;");
        bounds(HEAD + RING + "stall 0 at 0 sells 0 pieces 1 price ", " fixed;", 0, 99);
        s.says(TERM, "KIND: fixed | falls N | learns N, N 1 .. 20.");
        String stall = HEAD + RING + "stall 0 at 0 sells 0 pieces 1 price 1 ";
        good(stall + "fixed;", 3);
        bad(stall + "fixed ^1;", 1);
        bounds(stall + "falls ", ";", 1, 20);
        bounds(stall + "learns ", ";", 1, 20);
        bad(stall + "^rises 1;", 1);
    }

    private void buyerLines() {
        s.says(TERM, "coins 0 .. 999;");
        bounds(HEAD + "buyer at 0 coins ", " habit eager;", 0, 999);
        s.says(TERM, "HABIT: eager | thrifty | slow.");
        String[] habits = {"eager", "thrifty", "slow"};
        for (int n = 0; n < 3; n++) {
            TurningMarket x = Due.loaded(HEAD + "buyer at 0 coins 0 habit " + habits[n] + ";");
            s.due("buyer(0, 2) of " + habits[n], x.buyer(0, 2), n);
        }
        bad(HEAD + "buyer at 0 coins 0 habit ^fixed;", 1);
        bad(HEAD + "buyer at 0 coins 0 habit ^;", 1);
        bad(HEAD + "buyer at 0 coins 0 habit ^0;", 1);
    }

    private void wantLines() {
        String behind = " 0 pieces 1 limit 1;";
        s.says(TERM, "wants of a BUYER told ahead,");
        bad(HEAD + "wants ^0" + behind, 2);
        bad(HEAD + "wants ^0" + behind + BUYER, 2);
        bounds(HEAD + BUYER + "wants ", behind, 0, 0);
        bounds(HEAD + BUYER.repeat(5) + "wants ", behind, 0, 4);
        bounds(HEAD + BUYER.repeat(6) + "wants ", behind, 0, 5);
        s.says(TERM, "a GOOD for which he has no WANT yet,");
        good(HEAD + BUYER + "wants 0 0 pieces 1 limit 1; wants 0 5 pieces 1 limit 1; wants 0 1 pieces 1 limit 1;", 5);
        bad(HEAD + BUYER + "wants 0 0 pieces 1 limit 1; wants 0 ^0 pieces 1 limit 1;", 2);
        bad(HEAD + BUYER + "wants 0 5 pieces 1 limit 1; wants 0 ^5 pieces 2 limit 2;", 2);
        bad(HEAD + BUYER + "wants 0 5 pieces 1 limit 1; wants 0 0 pieces 1 limit 1; wants 0 ^5 pieces 1 limit 1;", 2);
        bad(HEAD + BUYER + "wants 0 5 pieces 1 limit 1; wants 0 0 pieces 1 limit 1; wants 0 ^0 pieces 1 limit 1;", 2);
        good(HEAD + BUYER + BUYER + "wants 0 3 pieces 1 limit 1; wants 1 3 pieces 1 limit 1;", 5);
        s.says(TERM, "pieces 1 .. 9,");
        bounds(HEAD + BUYER + "wants 0 0 pieces ", " limit 1;", 1, 9);
        s.says(TERM, "limit 0 .. 99.");
        bounds(HEAD + BUYER + "wants 0 0 pieces 1 limit ", ";", 0, 99);
    }

    private void stuckLines() {
        s.says(TERM, "from, to MINUTES,");
        bounds(HEAD + RING + "stuck 0 from ", " to 5;", 0, 5);
        bounds(HEAD + RING + "stuck 0 from 0 to ", ";", 0, 5);
        String hour = "market places 4 minutes 60;" + RING;
        bounds(hour + "stuck 0 from ", " to 59;", 0, 59);
        bounds(hour + "stuck 0 from 0 to ", ";", 0, 59);
        String one = "market places 4 minutes 1;" + RING;
        bounds(one + "stuck 0 from ", " to 0;", 0, 0);
        bounds(one + "stuck 0 from 0 to ", ";", 0, 0);
        s.says(TERM, "to no less than from.");
        bounds(HEAD + RING + "stuck 0 from 3 to ", ";", 3, 5);
        bounds(HEAD + RING + "stuck 0 from 5 to ", ";", 5, 5);
        bad(HEAD + RING + "stuck 0 from 1 to ^0;", 2);
        bad(HEAD + RING + "stuck 0 from 5 to ^4;", 2);
    }

    private void tokens() {
        s.says(TERM, "TOKENS, blanks (32, 10) aside,");
        good(" ", 0);
        good("\n", 0);
        good("  \n \n\n " + HEAD + "\n", 1);
        good("market\nplaces\n4\nminutes\n6\n;\n", 1);
        good("market places 4 minutes 6;ring turns 1 east;", 2);
        good("market places4minutes 6;ring turns1east;", 2);
        for (int sign = 0; sign < 256; sign++) {
            String text = HEAD + (char) sign + RING;
            if (sign == 32 || sign == 10) {
                good(text, 2);
            } else if (sign < 'a' || sign > 'z') {
                bad(text, 1, HEAD.length());
            }
        }
        s.says(TERM, "the longest:");
        bad("^marketplaces 4 minutes 6;", 1);
        bad("market places 4 ^minutess 6;", 1);
        bad(HEAD + "^ringturns 1 east;", 1);
        bad(HEAD + "ring turns ^61 east;", 2);
        bad(HEAD + "ring turns 6 ^1 east;", 1);
        bad(HEAD + "ring turns 1 ^ea st;", 1);
        bad(HEAD + "ring turns 1 ^easter;", 1);
        s.says(TERM, "words (a .. z),");
        String[] notLetters = {"`", "{", "A", "Z", "_", "'", "-", "" + (char) 225, "" + (char) 250};
        for (String sign : notLetters) {
            bad("market^" + sign + " places 4 minutes 6;", 1);
            bad("^" + sign + "market places 4 minutes 6;", 1);
        }
        bad("^amarket places 4 minutes 6;", 1);
        bad("^zmarket places 4 minutes 6;", 1);
        bad("^marketa places 4 minutes 6;", 1);
        bad("^marketz places 4 minutes 6;", 1);
        good("market places 5 minutes 6;" + BUYER.replace("eager", "thrifty") + "wants 0 0 pieces 1 limit 1;", 3);
        s.says(TERM, "numbers (digits),");
        String[] notDigits = {"/", ":", ".", ",", "-", "+", "A", "" + (char) 176, "" + (char) 178};
        for (String sign : notDigits) {
            bad("market places 4^" + sign + " minutes 6;", 1);
            bad("market places ^" + sign + "4 minutes 6;", 1);
        }
        for (int n = 0; n < 10; n++) {
            TurningMarket x = Due.loaded(HEAD + "buyer at 0 coins " + n + n + n + " habit eager;");
            s.due("buyer(0, 1) of the digit " + n, x.buyer(0, 1), 111 * n);
        }
        s.says(TERM, "the sign ; .");
        good(HEAD + RING, 2);
        bad("market places 4 minutes 6^:", 1);
        bad("market places 4 minutes 6^,", 1);
        bad("market places 4 minutes 6^.", 1);
        bad("market places 4 minutes 6^<", 1);
        bad("market places 4 minutes 6;^;", 1);
    }

    private void faultsByPlace() {
        s.says(TERM, "FAULTS, the first by its place (a TOKEN's first byte; the end's),");
        // each kind ahead of each other one
        String three = HEAD + RING + RING + RING + BUYER;
        bad(three + "buyer at ^9 coins ? habit eager; ring", 2);
        bad(three + "buyer at ^? coins 1000 habit eager; ring", 1);
        bad(three + "^ring turns 99 ? ;", 3);
        bad(three + "stuck 0 from ^6 to 9; ring turns 1 east;", 2);
        bad(three + "^xyzzy; ring turns 1 east;", 1);
        bad(three + "^ring turns ? east;", 3);
        bad("market places ^13 minutes 61;", 2);
        bad("market places ^1 minutes 0", 2);
        bad("^Market places 1 minutes 0", 1);
        bad(HEAD + "ring turns 1 ^eastward;", 1);
        bad(HEAD + "ring turns ^000000000061 east;", 2);
        bad("market places 4 minutes 6^", 1);
        bad("market places 4 minutes 6   ^", 1);
        bad("market places 4 minutes 6 \n\n^", 1);
        bad("market^", 1);
        bad(HEAD + "wants ^0", 2);
        bad(HEAD + BUYER + "wants 0^", 1);
        bad(HEAD + " \n ^?", 1);
        s.says(TERM, "of one place the least:");
        bad(HEAD + RING + RING + "ring ^ring", 1);
        bad(HEAD + RING + STALL.repeat(7) + "stall ^stall", 1);
        bad(HEAD + BUYER.repeat(5) + "buyer ^buyer", 1);
        bad(HEAD + RING + STUCK.repeat(3) + "stuck ^stuck", 1);
        bad(HEAD + RING + STUCK.repeat(4) + "ring turns 1 east ^stuck 0 from 0 to 0;", 1);
        bad(HEAD + RING + RING + RING + "stall 0 at ^ring", 1);
    }

    private void faultsByKind() {
        s.says(TERM, "1 a TOKEN that is none, or can't stand there (market behind the first LINE, another word ahead of it).");
        bad(HEAD + "^%", 1);
        bad(HEAD + "ring ^6", 1);
        bad(HEAD + "ring ^;", 1);
        bad(HEAD + "^6", 1);
        bad(HEAD + "^market", 1);
        bad(HEAD + RING + "^market places 4 minutes 6;", 1);
        String[] words = {"ring", "stall", "buyer", "wants", "stuck", "places", "minutes", "east", "west", "fixed", "eager", "x"};
        for (String word : words) {
            bad("^" + word, 1);
            bad(" \n^" + word + " " + HEAD, 1);
        }
        String[] noLine = {"places", "minutes", "turns", "east", "west", "at", "sells", "fixed", "habit", "slow", "from", "to",
            "a", "rings"};
        for (String word : noLine) {
            bad(HEAD + "^" + word + " 0 at 0;", 1);
        }
        s.says(TERM, "2 a number out of its bounds, not as said.");
        bad("market places ^1 minutes 6;", 2);
        bad(HEAD + RING + "stall ^1 at 0 sells 0 pieces 1 price 1 fixed;", 2);
        bad(HEAD + RING + "stall 0 at ^4 sells 0 pieces 1 price 1 fixed;", 2);
        bad(HEAD + BUYER + "wants ^1 0 pieces 1 limit 1;", 2);
        bad(HEAD + BUYER + WANT + "wants 0 ^0 pieces 1 limit 1;", 2);
        bad(HEAD + RING + "stuck 0 from 2 to ^1;", 2);
        bad(HEAD + RING + "stuck 0 from ^6 to 6;", 2);
    }

    private void tooMany() {
        s.says(TERM, "3 a 4th ring, 9th stall, 7th buyer, 5th stuck, at its word;");
        String rings = HEAD + RING.repeat(3);
        good(rings, 4);
        bad(rings + "^" + RING, 3);
        bad(rings + STALL + BUYER + "^ring", 3);
        good(rings + STALL.repeat(8), 12);
        bad(rings + STALL.repeat(8) + "^" + STALL, 3);
        bad(rings + STALL.repeat(8) + BUYER + "^stall 9", 3);
        good(HEAD + BUYER.repeat(6), 7);
        bad(HEAD + BUYER.repeat(6) + "^" + BUYER, 3);
        bad(HEAD + BUYER.repeat(6) + RING + "^buyer ?", 3);
        good(HEAD + RING + STUCK.repeat(4), 6);
        bad(HEAD + RING + STUCK.repeat(4) + "^" + STUCK, 3);
        bad(HEAD + RING + RING + STUCK.repeat(2) + STUCK.replace("0 from", "1 from").repeat(2) + "^stuck;", 3);
        s.says(TERM, "a 4th WANT of a BUYER, at his number.");
        String three = HEAD + BUYER + "wants 0 1 pieces 1 limit 1; wants 0 2 pieces 1 limit 1; wants 0 3 pieces 1 limit 1;";
        good(three, 5);
        bad(three + "wants ^0 4 pieces 1 limit 1;", 3);
        bad(three + "wants ^0 1 pieces 1 limit 1;", 3);
        bad(three + "wants ^0", 3);
        bad(three + "wants ^1", 2);
        good(three + BUYER + "wants 1 1 pieces 1 limit 1;", 7);
        bad(three + BUYER + "wants 1 1 pieces 1 limit 1; wants ^000 4 pieces 1 limit 1;", 3);
    }

    private void newObject() {
        s.says("Promise 1", "No MARKET.");
        TurningMarket x = new TurningMarket();
        for (int what = 0; what < 9; what++) {
            s.due("count(" + what + ")", x.count(what), 0);
        }
        int[] answers = {x.stall(0, 0), x.buyer(0, 0), x.want(0, 0, 0), x.at(0, 0), x.comes(0, 0, 0), x.there(0, 0, 0),
            x.face(0, 1, 0), x.often(0, 1), x.asks(0, 0), x.has(0, 0), x.sold(0, 0), x.bought(0, 0), x.coins(0, 0), x.sale(0, 0),
            x.all(0), x.all(4), x.best(0), x.cost(0), x.choice(0, 0), x.needs(0), x.send(0, 1, 0, 0), x.round(0, 0), x.swap(0),
            x.swap(1), x.moves(0, 0), x.offer(0, 0), x.wise(0), x.passed(0, 0, 0), x.least(0), x.turn(0, 1), x.again(),
            x.drawn(0, 0), x.chance(0, 1, 0, 0)};
        for (int i = 0; i < answers.length; i++) {
            s.due("call " + i + " without a MARKET", answers[i], -2);
        }
        s.due("harm(0, 0)", x.harm(0, 0), -2000000);
        x.row(0, 0, 0);
        s.due("theft(0, 0)", x.theft(0, 0), -2);
        s.due("judge(0)", x.judge(0), -2);
    }

    private void feed() {
        s.says("Promise 2", "Twenty bytes come behind the TAPE, four of each number, the highest first: how many it has;");
        TurningMarket x = new TurningMarket();
        s.due("feed, once", x.feed(0x6d61726b, 0x65742070, 0x6c616365, 0x73203920, 0x6d696e75), 20);
        s.due("feed, twice", x.feed(0x74657320, 0x353b2020, 0x20202020, 0x20202020, 0x20202020), 40);
        s.due("market()", x.market(), 1);
        s.due("count(0)", x.count(0), 9);
        s.due("count(1)", x.count(1), 5);
        // each of the twenty bytes in turn is a sign that is none: '!', and the bytes 128 and 255
        int[] signs = {'!', 128, 255};
        for (int i = 0; i < 20; i++) {
            for (int sign : signs) {
                int[] fed = {0x20202020, 0x20202020, 0x20202020, 0x20202020, 0x20202020};
                int shift = 24 - 8 * (i % 4);
                fed[i / 4] = fed[i / 4] & ~(255 << shift) | sign << shift;
                TurningMarket y = new TurningMarket();
                y.feed(0x20202020, 0x20202020, 0x20202020, 0x20202020, 0x20202020);
                s.due("feed", y.feed(fed[0], fed[1], fed[2], fed[3], fed[4]), 40);
                s.due("market() of a sign that is none", y.market(), -4);
                s.due("its place", y.fault(1), 20 + i);
            }
        }
    }

    private static TurningMarket fedBlank(int times) {
        TurningMarket x = new TurningMarket();
        for (int n = 0; n < times; n++) {
            x.feed(0x20202020, 0x20202020, 0x20202020, 0x20202020, 0x20202020);
        }
        return x;
    }

    private void feedFull() {
        s.says("Promise 2", "NONE, and none come, if it would have more than 2,000.");
        TurningMarket x = fedBlank(98);
        s.due("feed to 1,980", x.feed(0x20202020, 0x20202020, 0x20202020, 0x20202020, 0x20202020), 1980);
        s.due("feed to 2,000", x.feed(0x20202020, 0x20202020, 0x20202020, 0x20202020, 0x20202020), 2000);
        s.due("feed beyond", x.feed(-1, -1, -1, -1, -1), -1);
        s.due("count(6)", x.count(6), 2000);
        s.due("feed beyond again", x.feed(-1, -1, -1, -1, -1), -1);
        s.due("none have come", x.market(), 0);
        for (int n = 1980; n <= 1999; n++) {
            TurningMarket y = fedBlank(100);
            y.end(n);
            boolean fits = n == 1980;
            s.due("feed behind " + n, y.feed(-1, -1, -1, -1, -1), fits ? 2000 : -1);
            s.due("count(6) behind " + n, y.count(6), fits ? 2000 : n);
            s.due("market() behind " + n, y.market(), fits ? -4 : 0);
            s.due("fault(1) behind " + n, y.fault(1), fits ? 1980 : -1);
        }
        TurningMarket z = fedBlank(100);
        z.market();
        s.due("feed, when the TAPE is empty again", z.feed(0, 0, 0, 0, 0), 20);
    }

    private void end() {
        s.says("Promise 3", "The TAPE has its first n bytes alone: n;");
        TurningMarket x = new TurningMarket();
        s.due("end(0) of none", x.end(0), 0);
        x.feed(0, 0, 0, 0, 0);
        s.due("end(20) of 20", x.end(20), 20);
        s.due("end(19) of 20", x.end(19), 19);
        s.due("count(6)", x.count(6), 19);
        s.due("feed behind it", x.feed(0, 0, 0, 0, 0), 39);
        s.due("end(0)", x.end(0), 0);
        s.due("market() of none", x.market(), 0);
        Due.feed(x, HEAD + RING + "?");
        s.due("end at the second line", x.end(HEAD.length() + RING.length()), HEAD.length() + RING.length());
        s.due("end at the first line", x.end(HEAD.length()), HEAD.length());
        Due.feed(x, BUYER);
        s.due("what comes behind it", x.market(), 2);
        s.due("what comes behind it", x.count(4), 1);
        s.due("what is cut off", x.count(2), 0);
        cutOff("marketplaces 4 minutes 6;", 6);
        cutOff("market places 4 minutes 61;", 25);
        cutOff("market places 4 minutes 6;", 25);
        cutOff("market places 4 minutes 6      ;", 28);
        s.says("Promise 3", "NONE, and nothing happens, if it has not so many, or n is below 0.");
        TurningMarket y = new TurningMarket();
        s.due("end(1) of none", y.end(1), -1);
        Due.feed(y, HEAD + RING);
        int length = HEAD.length() + RING.length();
        int[] beyond = {length + 1, 2000, 2001, Integer.MAX_VALUE, -1, -length, Integer.MIN_VALUE};
        for (int n : beyond) {
            s.due("end(" + n + ") of " + length, y.end(n), -1);
            s.due("count(6)", y.count(6), length);
        }
        s.due("market()", y.market(), 2);
        s.due("end(1), when the TAPE is empty again", y.end(1), -1);
    }

    /** What is left has no other fault than its end. */
    private void cutOff(String text, int n) {
        TurningMarket x = new TurningMarket();
        Due.feed(x, text);
        s.due("end(" + n + ") of <" + text + ">", x.end(n), n);
        s.due("market() of <" + text + ">, cut", x.market(), -4);
        s.due("fault(0) of <" + text + ">, cut", x.fault(0), 1);
        s.due("fault(1) of <" + text + ">, cut", x.fault(1), n);
    }

    private void market() {
        s.says("Promise 4", "The TAPE (empty then) is the MARKET (in place of another):");
        TurningMarket x = Due.loaded(HEAD + RING + STALL + BUYER + WANT + STUCK);
        s.due("count(6)", x.count(6), 0);
        s.due("count(7)", x.count(7), 1);
        s.due("another", Due.load(x, "market places 7 minutes 9; ring turns 3 west;"), 2);
        int[] counts = {7, 9, 1, 0, 0, 2, 0, 0, 0};
        for (int what = 0; what < counts.length; what++) {
            s.due("count(" + what + ") of another", x.count(what), counts[what]);
        }
        s.due("turn(0, 3) of another", x.turn(0, 3), 3);
        s.due("stall(0, 0) of another", x.stall(0, 0), -2);
        s.due("buyer(0, 0) of another", x.buyer(0, 0), -2);
        s.due("want(0, 0, 0) of another", x.want(0, 0, 0), -2);
        s.due("ten places", Due.load(x, "market places 10 minutes 2; buyer at 9 coins 2 habit slow;"), 2);
        s.due("his wants", x.buyer(0, 3), 0);
        s.due("his coins in the other HOUR", x.coins(0, 1), 2);
        s.says("Promise 4", "how many LINES (0: there is none then).");
        for (int lines = 1; lines <= 4; lines++) {
            s.due("market() of " + lines, Due.load(x, HEAD + RING.repeat(lines - 1)), lines);
        }
        s.due("least(5) of a MARKET", Due.loaded(HEAD + RING).least(5), 0);
        s.due("market() of an empty TAPE", x.market(), 0);
        for (int what = 0; what < 9; what++) {
            s.due("count(" + what + ")", x.count(what), 0);
        }
        s.due("least(0)", x.least(0), -2);
        s.due("again()", x.again(), -2);
        s.due("all(0)", x.all(0), -2);
        Due.load(x, HEAD);
        s.due("market() of blanks", Due.load(x, " \n "), 0);
        s.due("swap(0)", x.swap(0), -2);
    }

    private void oneBehindAnother() {
        s.says("Promise 4", "is the MARKET (in place of another):");
        String many = HEAD + "ring turns 2 west; ring turns 0 east; stall 0 at 1 sells 0 pieces 9 price 9 falls 2; stall 1 at 0 sells 1 pieces 9 price 5"
            + " learns 7; stall 0 at 0 sells 2 pieces 8 price 7 learns 3; buyer at 0 coins 99 habit thrifty; buyer at 0 coins 98 habit slow;"
            + "buyer at 1 coins 97 habit eager; wants 0 1 pieces 7 limit 60; wants 1 1 pieces 6 limit 50; wants 2 0 pieces 9 limit 99;"
            + "wants 2 2 pieces 3 limit 98;" + STUCK.repeat(4);
        String few = HEAD + RING + STALL + STALL + BUYER + BUYER + WANT + "wants 1 0 pieces 2 limit 0;";
        String[] texts = {many, few, many, "", few, few, HEAD, Markets.SMALL, few};
        TurningMarket x = new TurningMarket();
        for (String text : texts) {
            TurningMarket fresh = new TurningMarket();
            s.due("market() of <" + text + ">", Due.load(x, text), Due.load(fresh, text));
            asFresh(x, fresh);
        }
    }

    /** What a market answers that others came ahead of, and what it answers alone. */
    private void asFresh(TurningMarket x, TurningMarket fresh) {
        for (int what = 0; what < 9; what++) {
            s.due("count(" + what + ")", x.count(what), fresh.count(what));
            s.due("all(" + what + ")", x.all(what), fresh.all(what));
        }
        int last = fresh.count(1) - 1;
        for (int i = 0; i < fresh.count(3); i++) {
            s.due("stall(" + i + ", 5)", x.stall(i, 5), fresh.stall(i, 5));
            s.due("stall(" + i + ", 6)", x.stall(i, 6), fresh.stall(i, 6));
            s.due("asks(" + i + ", the last)", x.asks(i, last), fresh.asks(i, last));
        }
        for (int b = 0; b < fresh.count(4); b++) {
            s.due("buyer(" + b + ", 2)", x.buyer(b, 2), fresh.buyer(b, 2));
            s.due("buyer(" + b + ", 3)", x.buyer(b, 3), fresh.buyer(b, 3));
            s.due("coins(" + b + ", the last)", x.coins(b, last), fresh.coins(b, last));
        }
        s.due("again()", x.again(), fresh.again());
        s.due("least(0)", x.least(0), fresh.least(0));
        s.due("round(1, 0)", x.round(1, 0), fresh.round(1, 0));
    }

    private void whatAFaultLeaves() {
        s.says("Promise 4", "-4: a FAULT (the TAPE is empty, all else stays).");
        String[] texts = {"?", "market places 1 minutes 1;", "market places 9 minutes 9;" + RING.repeat(4),
            "market places 9 minutes 9; ring turns 9 west; ring turns 9 west; ring turns 9 west; stall 2 at 8 sells 5 pieces 19 price 98"
                + " falls 19; buyer at 8 coins 998 habit slow; wants 0 5 pieces 8 limit 98; stuck 0 from 0 to 8; stuck 1 from 0 to 8; ?"};
        for (String text : texts) {
            TurningMarket x = Due.loaded(Markets.SMALL);
            x.keep(1);
            x.moves(0, 3);
            x.offer(1, 50);
            x.turn(0, 2);
            x.keep(2);
            Due.fill(x, 2, 1, 2, 300);
            s.due("market() of <" + text + ">", Due.load(x, text), -4);
            int[] counts = {4, 6, 2, 3, 2, 10, 0, 0, 1};
            for (int what = 0; what < counts.length; what++) {
                s.due("count(" + what + ")", x.count(what), counts[what]);
            }
            s.due("buyer(0, 0)", x.buyer(0, 0), 3);
            s.due("stall(1, 4)", x.stall(1, 4), 50);
            s.due("stall(0, 0)", x.stall(0, 0), 0);
            s.due("asks(1, 5)", x.asks(1, 5), 46);
            s.due("want(1, 0, 2)", x.want(1, 0, 2), 9);
            s.due("coins(1, 5)", x.coins(1, 5), 12);
            s.due("turn(0, 2)", x.turn(0, 2), 2);
            s.due("at(1, 5)", x.at(1, 5), 1);
            s.due("write(2, 1, 0)", x.write(2, 1, 0), 0);
            s.due("write(2, 2, 0)", x.write(2, 2, 0), -7);
            s.due("back(0)", x.back(0), -6);
            s.due("back(1)", x.back(1), 0);
            s.due("buyer(0, 0) of IMAGE 1", x.buyer(0, 0), 1);
            s.due("all(1) of IMAGE 1", x.all(1), 21);
            s.due("back(2)", x.back(2), 0);
            s.due("stall(1, 4) of IMAGE 2", x.stall(1, 4), 50);
        }
        TurningMarket none = new TurningMarket();
        s.due("market() without one", Due.load(none, HEAD + "?"), -4);
        s.due("none stays none", none.again(), -2);
    }

    private void fault() {
        s.says("Promise 5", "Of the latest market(), what 0: its FAULT, 0 without, 1: its place (NONE without).");
        TurningMarket x = new TurningMarket();
        latest(x, HEAD + "?", 1, 26);
        latest(x, "market places 13", 2, 14);
        latest(x, "?", 1, 0);
        latest(x, HEAD + RING.repeat(4), 3, 80);
        latest(x, HEAD, 0, -1);
        latest(x, HEAD + "?", 1, 26);
        latest(x, "", 0, -1);
        latest(x, HEAD + "ring turns 61", 2, 37);
        x.feed(0, 0, 0, 0, 0);
        x.end(0);
        x.keep(0);
        x.back(0);
        s.due("fault(0) behind other calls", x.fault(0), 2);
        s.due("fault(1) behind other calls", x.fault(1), 37);
        s.says("Promise 5", "NONE for another what, and ahead of any (what 1).");
        TurningMarket y = new TurningMarket();
        s.due("fault(0) ahead of any", y.fault(0), 0);
        s.due("fault(1) ahead of any", y.fault(1), -1);
        y.feed(0, 0, 0, 0, 0);
        s.due("fault(0) ahead of any", y.fault(0), 0);
        s.due("fault(1) ahead of any", y.fault(1), -1);
        int[] others = {-1, 2, Integer.MIN_VALUE, Integer.MAX_VALUE};
        for (int what : others) {
            s.due("fault(" + what + ") ahead of any", y.fault(what), -1);
            s.due("fault(" + what + ")", x.fault(what), -1);
        }
    }

    private void latest(TurningMarket x, String text, int fault, int place) {
        Due.load(x, text);
        s.due("fault(0) of <" + text + ">", x.fault(0), fault);
        s.due("fault(1) of <" + text + ">", x.fault(1), place);
    }
}
