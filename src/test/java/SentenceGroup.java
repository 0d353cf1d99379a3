/** What the groups of sentence tests share: lines of markets, and bounds. */
abstract class SentenceGroup {
    static final String RICH = "buyer at 0 coins 999 habit eager;";
    /** A stall's line behind its spot, where nobody is to buy of it. */
    static final String FREE = " sells 0 pieces 0 price 0 fixed;";

    final Sentences s;

    SentenceGroup(Sentences sentences) {
        s = sentences;
    }

    abstract void all();

    /** A market of four places with one ring, which never turns. */
    static TurningMarket still(int minutes, String... lines) {
        return Due.loaded(Markets.still(minutes, String.join("", lines)));
    }

    static String stall(int good, int pieces, int price, String kind) {
        return "stall 0 at 0 sells " + good + " pieces " + pieces + " price " + price + " " + kind + ";";
    }

    static String buyer(int coins, String habit) {
        return "buyer at 0 coins " + coins + " habit " + habit + ";";
    }

    static String want(int buyer, int good, int pieces, int limit) {
        return "wants " + buyer + " " + good + " pieces " + pieces + " limit " + limit + ";";
    }

    /** The last values of an argument that are taken. */
    static int[] to(int low, int high) {
        return new int[] {low, high};
    }

    /** Arguments that are all taken. */
    static int[] of(int... arguments) {
        return arguments;
    }
}
