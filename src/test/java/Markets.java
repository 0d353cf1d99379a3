/** Market texts that several tests use. */
final class Markets {
    /**
     * Stall 0 comes to places 0 1 2 3 0 1, stall 1 to 3 3 2 2 1 1, stall 2 to 2 3 0 1 2 3; sales
     * are (minute, stall, buyer, price) 1 0 0 10, 3 2 0 4 and 3 1 1 7.
     */
    static final String SMALL = "market places 4 minutes 6;\n"
        + "ring turns 1 east;\n"
        + "ring turns 2 west;\n"
        + "stall 0 at 0 sells 1 pieces 3 price 10 fixed;\n"
        + "stall 1 at 3 sells 2 pieces 2 price 9 falls 2;\n"
        + "stall 0 at 2 sells 1 pieces 1 price 4 learns 3;\n"
        + "buyer at 1 coins 30 habit eager;\n"
        + "buyer at 2 coins 12 habit thrifty;\n"
        + "wants 0 1 pieces 2 limit 10;\n"
        + "wants 1 2 pieces 1 limit 9;\n";

    /** A market without rings. */
    static final String BARE = "market places 3 minutes 4;";

    private Markets() {
    }

    /** A ring that stands still, and what lines are told beside it. */
    static String still(int minutes, String lines) {
        return "market places 4 minutes " + minutes + "; ring turns 0 east;" + lines;
    }
}
