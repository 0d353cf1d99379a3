/** The sentences of term IV and of promises 25 and 26: pears sent by STALLS. */
final class PearSentences extends SentenceGroup {
    private static final String TERM = "Term IV";

    PearSentences(Sentences sentences) {
        super(sentences);
    }

    @Override
    void all() {
        laid();
        later();
        byBuyers();
        least();
        arrival();
        stalls();
        neverOrNoneSuch();
        round();
        roundNoneSuch();
    }

    private void sent(String what, TurningMarket x, int from, int to, int minute, int arrival, int stalls) {
        String call = what + ": send(" + from + ", " + to + ", " + minute + ", ";
        s.due(call + "0)", x.send(from, to, minute, 0), arrival);
        s.due(call + "1)", x.send(from, to, minute, 1), stalls);
    }

    private static String buyer(int place) {
        return "buyer at " + place + " coins 0 habit slow;";
    }

    private static TurningMarket market(int places, int minutes, String... lines) {
        return Due.loaded("market places " + places + " minutes " + minutes + ";" + String.join("", lines));
    }

    private void laid() {
        s.says(TERM, "SEND: one lays it on a STALL that is ahead of his PLACE in a MINUTE (or waits);");
        // at 0 1 2 3 0 1 2 3
        TurningMarket x = market(4, 8, "ring turns 1 east; stall 0 at 0" + FREE);
        sent("in that MINUTE", x, 0, 1, 0, 1, 1);
        sent("he waits", x, 2, 3, 0, 3, 1);
        sent("he waits for one MINUTE", x, 0, 1, 3, 5, 1);
        sent("he waits from just behind", x, 0, 1, 1, 5, 1);
        sent("in the last but one", x, 2, 3, 6, 7, 1);
        sent("in the last", x, 3, 0, 7, -1, -1);
        sent("none comes to him any more", x, 1, 3, 6, -1, -1);
        sent("he is no BUYER", x, 0, 3, 0, 3, 1);
    }

    private void later() {
        s.says(TERM, "it is at each PLACE ahead of which that STALL is in a later MINUTE;");
        TurningMarket x = market(4, 8, "ring turns 1 east; stall 0 at 0" + FREE);
        for (int to = 1; to < 4; to++) {
            sent("each", x, 0, to, 0, to, 1);
        }
        sent("round", x, 1, 0, 0, 4, 1);
        sent("it was there ahead of it", x, 2, 1, 1, 5, 1);
        TurningMarket once = market(4, 4, "ring turns 1 east; stall 0 at 0" + FREE);
        sent("it was there ahead of it alone", once, 2, 1, 0, -1, -1);
        // two STALLS of two RINGS are at place 0 in minute 0 only: what is laid on the one is not on the other
        TurningMarket two = market(4, 3, "ring turns 1 east; ring turns 1 west; stall 0 at 0" + FREE + "stall 1 at 0" + FREE);
        sent("east", two, 0, 1, 0, 1, 1);
        sent("west", two, 0, 3, 0, 1, 1);
        sent("both", two, 0, 2, 0, 2, 1);
        TurningMarket still = market(4, 3, "ring turns 0 east; stall 0 at 0" + FREE);
        sent("it stays", still, 0, 1, 0, -1, -1);
    }

    /** Stall 0 is at 0 until 4, at 1 until 9, at 2 then; stall 1 at 1 until 5, at 2 until 11. */
    private static TurningMarket meeting(String buyers) {
        return market(6, 12, "ring turns 5 east; ring turns 6 east; stall 0 at 0" + FREE + "stall 1 at 1" + FREE + buyers);
    }

    private void byBuyers() {
        s.says(TERM, "where a BUYER stands it may be laid on another STALL, in that MINUTE or later.");
        sent("nobody stands there", meeting(""), 0, 2, 0, 10, 1);
        sent("in that MINUTE", meeting(buyer(1)), 0, 2, 0, 6, 2);
        sent("somebody stands elsewhere", meeting(buyer(0) + buyer(2) + buyer(3)), 0, 2, 0, 10, 1);
        TurningMarket x = meeting(buyer(1));
        x.moves(0, 4);
        sent("he stands elsewhere now", x, 0, 2, 0, 10, 1);
        // stall 0 is at 0 1 2 2 2, stall 1 at 1 1 2 3 4: both at 2 in minute 2 alone
        String both = "ring turns 1 east; ring turns 1 east; stall 0 at 0" + FREE + "stall 1 at 1" + FREE
            + "stuck 0 from 3 to 4; stuck 1 from 0 to 0;";
        sent("in that MINUTE alone", market(12, 5, both + buyer(2)), 0, 3, 0, 3, 2);
        sent("in that MINUTE alone, without him", market(12, 5, both), 0, 3, 0, -1, -1);
        String turned = "ring turns 1 east; ring turns 1 east; stall 1 at 1" + FREE + "stall 0 at 0" + FREE
            + "stuck 0 from 3 to 4; stuck 1 from 0 to 0;";
        sent("in that MINUTE alone, on a lesser STALL", market(12, 5, turned + buyer(2)), 0, 3, 0, 3, 2);
        // stall 0 is at 0 1 2 3 4 4 4 4 4 4, stall 1 at 1 1 1 1 1 1 2 3 4 5: at 2 in minute 2 and in minute 6
        String apart = "ring turns 1 east; ring turns 1 east; stall 0 at 0" + FREE + "stall 1 at 1" + FREE
            + "stuck 0 from 5 to 9; stuck 1 from 0 to 4;";
        sent("later", market(12, 10, apart + buyer(2)), 0, 5, 0, 9, 2);
        sent("later, without him", market(12, 10, apart), 0, 5, 0, -1, -1);
    }

    private void least() {
        s.says(TERM, "In the least MINUTE; by the fewest STALLS.");
        sent("sooner by two than by one", meeting(buyer(1)), 0, 2, 0, 6, 2);
        // stall 0 and stall 1 come to 2 in minute 6, stall 0 straight
        TurningMarket same = market(6, 12, "ring turns 3 east; ring turns 6 east; stall 0 at 0" + FREE + "stall 1 at 1" + FREE + buyer(1));
        sent("by one as soon as by two", same, 0, 2, 0, 6, 1);
        // the same with the two STALLS told the other way round
        TurningMarket turned = market(6, 12, "ring turns 6 east; ring turns 3 east; stall 0 at 1" + FREE + "stall 1 at 0" + FREE
            + buyer(1));
        sent("by one as soon as by two", turned, 0, 2, 0, 6, 1);
        // stalls: 2 2 2 2 3 .., 1 1 1 2 2 2 3 .., 0 0 1 1 2 2 3 ..
        String rings = "ring turns 2 east; ring turns 3 east; ring turns 4 east;";
        String stalls = "stall 2 at 2" + FREE + "stall 1 at 1" + FREE + "stall 0 at 0" + FREE;
        sent("by three", market(6, 12, rings + stalls + buyer(1) + buyer(2)), 0, 3, 0, 4, 3);
        sent("by one without one of the BUYERS", market(6, 12, rings + stalls + buyer(1)), 0, 3, 0, 6, 1);
        sent("by one without BUYERS", market(6, 12, rings + stalls), 0, 3, 0, 6, 1);
        // stall 0 is at 2 from 4 on and stays there, by stall 1 it is at 2 in 3 already; stall 2 leaves 2 in minute 6, or in 4
        String stay = "stall 0 at 0" + FREE + "stall 1 at 1" + FREE + "stall 2 at 2" + FREE + "stuck 0 from 6 to 9; stuck 1 from 4 to 9;"
            + buyer(1) + buyer(2);
        sent("by two that come later rather than by three", market(6, 10,
            "ring turns 2 east; ring turns 3 east; ring turns 6 east;" + stay), 0, 3, 0, 6, 2);
        sent("by three, as two come too late", market(6, 10, "ring turns 2 east; ring turns 3 east; ring turns 4 east;" + stay),
            0, 3, 0, 4, 3);
    }

    private void arrival() {
        s.says("Promise 25", "SEND (IV): a pear from a PLACE to another one, from a MINUTE on, what 0: the MINUTE in which it is there,");
        TurningMarket x = Due.loaded(Markets.SMALL);
        int[][] due = {{0, 1, 0, 1}, {0, 2, 0, 2}, {0, 3, 0, 3}, {3, 1, 0, 3}, {3, 1, 1, 3}, {3, 1, 2, 5}, {1, 0, 0, 4}, {1, 0, 1,
            4}, {3, 2, 0, 2}};
        for (int[] d : due) {
            s.due("send(" + d[0] + ", " + d[1] + ", " + d[2] + ", 0)", x.send(d[0], d[1], d[2], 0), d[3]);
        }
        TurningMarket last = market(12, 60, "ring turns 59 west; stall 0 at 0" + FREE);
        s.due("in the last MINUTE", last.send(0, 11, 0, 0), 59);
        s.due("in the last MINUTE, from the one ahead", last.send(0, 11, 58, 0), 59);
        s.due("from the last MINUTE", last.send(0, 11, 59, 0), -1);
    }

    private void stalls() {
        s.says("Promise 25", "1: by how many STALLS.");
        TurningMarket x = Due.loaded(Markets.SMALL);
        s.due("one", x.send(0, 1, 0, 1), 1);
        s.due("two", meeting(buyer(1)).send(0, 2, 0, 1), 2);
        s.due("one without a BUYER", meeting("").send(0, 2, 0, 1), 1);
    }

    private void neverOrNoneSuch() {
        s.says("Promise 25", "NONE: it never is;");
        TurningMarket x = Due.loaded(Markets.SMALL);
        sent("no more", x, 1, 0, 4, -1, -1);
        sent("in the last", x, 0, 1, 5, -1, -1);
        sent("without STALLS", Due.loaded(Markets.BARE), 0, 1, 0, -1, -1);
        s.says("Promise 25", "-2: there are none such, one twice.");
        s.edges("send", g -> x.send(g[0], g[1], g[2], g[3]), -2, of(3, 2, 5, 1),
            to(3, 3), to(0, 2), to(0, 5), to(0, 1));
        s.edges("send", g -> x.send(g[0], g[1], g[2], g[3]), -2, of(1, 0, 0, 0),
            to(1, 3), to(0, 0), to(0, 5), to(0, 1));
        s.edges("send", g -> x.send(g[0], g[1], g[2], g[3]), -2, of(0, 1, 0, 0),
            to(0, 0), to(1, 3), to(0, 5), to(0, 1));
        for (int place = 0; place < 5; place++) {
            s.due("one twice", x.send(place, place, 0, 0), -2);
            s.due("one twice", x.send(place, place, 0, 1), -2);
        }
    }

    private void round() {
        s.says("Promise 26", "The first MINUTE from one on by which a pear has been ahead of all PLACES with BUYERS, sent to each from a PLACE, apart");
        TurningMarket x = Due.loaded(Markets.SMALL);
        s.due("to 1 and 2", x.round(0, 0), 2);
        s.due("to 1 and 2", x.round(3, 0), 3);
        // at 0 1 2 3 4 5 0 1
        String lines = "ring turns 1 east; stall 0 at 0" + FREE;
        TurningMarket far = market(6, 8, lines + buyer(4) + buyer(1) + buyer(3));
        s.due("the latest of three", far.round(0, 0), 4);
        s.due("from elsewhere", far.round(2, 0), 7);
        s.due("from a MINUTE on", far.round(0, 1), -1);
        s.due("two at one PLACE", market(6, 8, lines + buyer(4) + buyer(4)).round(0, 0), 4);
        s.due("by others who stand on the way", meeting(buyer(1) + buyer(2)).round(0, 0), 6);
        s.says("Promise 26", "(where it is at first: that MINUTE; without BUYERS likewise);");
        roundWhereItIs();
        s.says("Promise 26", "NONE: it never has.");
        s.due("to none of two", x.round(0, 4), -1);
        s.due("to one of two", far.round(0, 6), -1);
        s.due("to one, the last of three", market(6, 4, lines + buyer(4) + buyer(1)).round(0, 0), -1);
        s.due("to one, the first of three", market(6, 8, "ring turns 1 east; stall 0 at 0" + FREE + buyer(2) + buyer(0)
            + buyer(1)).round(1, 2), -1);
        s.due("without STALLS", market(4, 5, buyer(1)).round(0, 0), -1);
    }

    private void roundWhereItIs() {
        for (int minute = 0; minute < 4; minute++) {
            s.due("where it is", market(3, 4, buyer(1)).round(1, minute), minute);
            s.due("where it is, two of them", market(3, 4, buyer(1) + buyer(1)).round(1, minute), minute);
            s.due("without BUYERS", Due.loaded(Markets.BARE).round(2, minute), minute);
        }
        TurningMarket x = market(6, 8, "ring turns 1 east; stall 0 at 0" + FREE + buyer(0) + buyer(2));
        s.due("where it is, and elsewhere", x.round(0, 0), 2);
        s.due("where it is, and never elsewhere", x.round(0, 7), -1);
    }

    private void roundNoneSuch() {
        s.says("Promise 26", "-2: there are none such.");
        TurningMarket x = Due.loaded(Markets.SMALL);
        s.edges("round", g -> x.round(g[0], g[1]), -2, of(3, 5), to(0, 3), to(0, 5));
        TurningMarket full = Due.loaded(ToldSentences.FULL);
        s.edges("round", g -> full.round(g[0], g[1]), -2, of(0, 0), to(0, 11), to(0, 59));
    }
}
