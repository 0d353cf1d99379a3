/** What the tests share: it compares answers with those that are due and ends the test. */
final class Due {
    private final String test;
    private int calls = 0;
    private int wrong = 0;

    Due(String test) {
        this.test = test;
    }

    void due(String call, long got, long want) {
        calls++;
        if (got != want) {
            wrong++;
            if (wrong <= 50) {
                System.out.println(test + ": " + call + " answered " + got + ", due is " + want);
            }
        }
    }

    void finish() {
        System.out.println(test + ": " + calls + " answers, " + wrong + " not as due");
        if (wrong != 0 || calls == 0) {
            System.exit(1);
        }
    }

    /** Puts a text on the tape, byte by byte of its characters 0 to 255. */
    static void feed(TurningMarket x, String text) {
        int before = x.count(6);
        for (int i = 0; i < text.length(); i += 20) {
            x.feed(four(text, i), four(text, i + 4), four(text, i + 8), four(text, i + 12), four(text, i + 16));
        }
        x.end(before + text.length());
    }

    /** How many calls it takes to load a text. */
    static int callsOfLoad(String text) {
        return (text.length() + 19) / 20 + 3;
    }

    static int load(TurningMarket x, String text) {
        feed(x, text);
        return x.market();
    }

    static TurningMarket loaded(String text) {
        TurningMarket x = new TurningMarket();
        int lines = load(x, text);
        if (lines <= 0) {
            throw new IllegalStateException("a test's own text has fault " + x.fault(0) + " at " + x.fault(1) + ": " + text);
        }
        return x;
    }

    static void fill(TurningMarket x, int slot, int width, long... numbers) {
        x.row(slot, width, numbers.length);
        for (int i = 0; i < numbers.length; i++) {
            x.write(slot, i, numbers[i]);
        }
    }

    private static int four(String text, int from) {
        int number = 0;
        for (int i = from; i < from + 4; i++) {
            number = number << 8 | (i < text.length() ? text.charAt(i) & 255 : 0);
        }
        return number;
    }
}
