/** Objects that hold one market: a new one is made before the document's 512 calls of the one at hand are used up. */
final class Supply {
    private static final int CALLS = 512;

    /** What is done on each new object, and how many calls that takes. */
    interface Beginning {
        int on(TurningMarket x);
    }

    private final Beginning beginning;
    private TurningMarket atHand;
    private int left = 0;

    Supply(Beginning beginning) {
        this.beginning = beginning;
    }

    /** An object that so many calls more may be made of. */
    TurningMarket room(int calls) {
        if (left < calls) {
            atHand = new TurningMarket();
            left = CALLS - beginning.on(atHand);
        }
        left -= calls;
        if (left < 0) {
            throw new IllegalStateException("a test asks for more calls than an object has: " + calls);
        }
        return atHand;
    }

    /** An object for one call. */
    TurningMarket one() {
        return room(1);
    }
}
