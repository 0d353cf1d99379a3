import java.util.Arrays;

/**
 * A market told as a text: rings that turn, stalls on them that sell, buyers around them.
 * ../shared/DOC.md says what each call answers.
 */
public final class TurningMarket {
    public static final int NONE = -1;

    private static final int NO_SUCH = -2;
    private static final int BELOW_NOTHING = -3;
    private static final int FAULTY = -4;
    private static final int EMPTY = -6;
    private static final int BEYOND = -7;
    private static final int UNLIKE = -8;
    private static final int NO_SUCH_HARM = -2000000;

    private static final int MOST_BYTES = 2000;
    private static final int BYTES_FED = 20;
    private static final int LEAST_PLACES = 2;
    private static final int MOST_PLACES = 12;
    private static final int MOST_MINUTES = 60;
    private static final int MOST_TURNS = 60;
    private static final int MOST_RINGS = 3;
    private static final int MOST_STALLS = 8;
    private static final int MOST_BUYERS = 6;
    private static final int MOST_WANTS = 3;
    private static final int MOST_STUCK = 4;
    private static final int LAST_GOOD = 5;
    private static final int MOST_PIECES = 20;
    private static final int MOST_PRICE = 99;
    private static final int MOST_STEP = 20;
    private static final int MOST_COINS = 999;
    private static final int MOST_WANTED = 9;
    private static final int MOST_SALES = MOST_STALLS * MOST_PIECES;
    private static final int BOUNDLESS_COINS = 1000000;

    private static final int MOST_PERIOD = 3600;
    private static final int MOST_SEED = 2000000000;
    private static final int MOST_ODDS = 100;
    private static final int MOST_HOURS = 20;

    private static final int IMAGES = 3;
    private static final int SLOTS = 4;
    private static final int WIDTHS = 4;
    private static final int MOST_NUMBERS = 60;

    private static final int FIXED = 0;
    private static final int FALLS = 1;
    private static final int LEARNS = 2;

    private static final int EAGER = 0;
    private static final int THRIFTY = 1;
    private static final int SLOW = 2;

    private final Reader reader = new Reader();
    private Market now = new Market();
    /** What is being read or tried out: nothing in it lasts beyond a call. */
    private Market draft = new Market();
    private final Market[] images = new Market[IMAGES];
    private final boolean[] kept = new boolean[IMAGES];
    private final Row[] rows = new Row[SLOTS];
    private final Hour hour = new Hour();
    /** The hour is that of the market as it stands, not of a trial or of an earlier market. */
    private boolean played = false;
    private final Alone alone = new Alone();
    private final Post post = new Post();

    public TurningMarket() {
        for (int k = 0; k < IMAGES; k++) {
            images[k] = new Market();
        }
        for (int slot = 0; slot < SLOTS; slot++) {
            rows[slot] = new Row();
        }
    }

    public int feed(int a, int b, int c, int d, int e) {
        if (reader.length > MOST_BYTES - BYTES_FED) {
            return NONE;
        }
        reader.add(a);
        reader.add(b);
        reader.add(c);
        reader.add(d);
        reader.add(e);
        return reader.length;
    }

    public int end(int n) {
        if (n < 0 || n > reader.length) {
            return NONE;
        }
        reader.length = n;
        return n;
    }

    public int market() {
        if (!reader.read(draft)) {
            return FAULTY;
        }
        Market read = draft;
        draft = now;
        now = read;
        played = false;
        return now.lines;
    }

    public int fault(int what) {
        switch (what) {
            case 0: return reader.fault;
            case 1: return reader.faultPlace;
            default: return NONE;
        }
    }

    public int stall(int stall, int what) {
        if (!now.hasStall(stall)) {
            return NO_SUCH;
        }
        Stall asked = now.stalls[stall];
        switch (what) {
            case 0: return asked.ring;
            case 1: return asked.spot;
            case 2: return asked.good;
            case 3: return asked.pieces;
            case 4: return asked.price;
            case 5: return asked.kind;
            case 6: return asked.step;
            default: return NO_SUCH;
        }
    }

    public int buyer(int buyer, int what) {
        if (!now.hasBuyer(buyer)) {
            return NO_SUCH;
        }
        Buyer asked = now.buyers[buyer];
        switch (what) {
            case 0: return asked.place;
            case 1: return asked.coins;
            case 2: return asked.habit;
            case 3: return asked.wants;
            default: return NO_SUCH;
        }
    }

    public int want(int buyer, int i, int what) {
        if (!now.hasBuyer(buyer) || i < 0 || i >= now.buyers[buyer].wants) {
            return NO_SUCH;
        }
        Buyer asked = now.buyers[buyer];
        switch (what) {
            case 0: return asked.good[i];
            case 1: return asked.pieces[i];
            case 2: return asked.limit[i];
            default: return NO_SUCH;
        }
    }

    public int at(int stall, int minute) {
        if (!now.hasStall(stall) || !now.hasMinute(minute)) {
            return NO_SUCH;
        }
        return toldHour().course.place[stall][minute];
    }

    public int comes(int stall, int place, int minute) {
        if (!now.hasStall(stall) || !now.hasPlace(place) || !now.hasMinute(minute)) {
            return NO_SUCH;
        }
        Course course = toldHour().course;
        for (int m = minute; m < now.minutes; m++) {
            if (course.place[stall][m] == place) {
                return m;
            }
        }
        return NONE;
    }

    public int there(int ring, int place, int minute) {
        if (!now.hasRing(ring) || !now.hasPlace(place) || !now.hasMinute(minute)) {
            return NO_SUCH;
        }
        Course course = toldHour().course;
        for (int s = 0; s < now.stallCount; s++) {
            if (now.stalls[s].ring == ring && course.place[s][minute] == place) {
                return s;
            }
        }
        return NONE;
    }

    public int face(int stall, int other, int minute) {
        if (!areTwoStalls(stall, other) || !now.hasMinute(minute)) {
            return NO_SUCH;
        }
        Course course = toldHour().course;
        for (int m = minute; m < now.minutes; m++) {
            if (course.place[stall][m] == course.place[other][m]) {
                return m;
            }
        }
        return NONE;
    }

    public int often(int stall, int other) {
        if (!areTwoStalls(stall, other)) {
            return NO_SUCH;
        }
        Course course = toldHour().course;
        int times = 0;
        for (int m = 0; m < now.minutes; m++) {
            if (course.place[stall][m] == course.place[other][m]) {
                times++;
            }
        }
        return times;
    }

    public int asks(int stall, int minute) {
        if (!now.hasStall(stall) || !now.hasMinute(minute)) {
            return NO_SUCH;
        }
        return toldHour().asked[stall][minute];
    }

    public int has(int stall, int minute) {
        if (!now.hasStall(stall) || !now.hasMinute(minute)) {
            return NO_SUCH;
        }
        return toldHour().left[stall][minute];
    }

    public int sold(int stall, int what) {
        if (!now.hasStall(stall)) {
            return NO_SUCH;
        }
        switch (what) {
            case 0: return toldHour().salesAt(stall);
            case 1: return toldHour().takenAt(stall);
            case 2: return toldHour().firstMinuteAt(stall);
            default: return NO_SUCH;
        }
    }

    public int bought(int buyer, int what) {
        if (!now.hasBuyer(buyer)) {
            return NO_SUCH;
        }
        switch (what) {
            case 0: return toldHour().salesTo(buyer);
            case 1: return toldHour().spentBy(buyer);
            case 2: return toldHour().lackOf(buyer);
            case 3: return toldHour().doneIn[buyer];
            default: return NO_SUCH;
        }
    }

    public int coins(int buyer, int minute) {
        if (!now.hasBuyer(buyer) || !now.hasMinute(minute)) {
            return NO_SUCH;
        }
        return toldHour().purse[buyer][minute];
    }

    public int sale(int i, int what) {
        if (!now.isTold() || what < 0 || what > 3) {
            return NO_SUCH;
        }
        Hour told = toldHour();
        if (i < 0 || i >= told.sales) {
            return NONE;
        }
        switch (what) {
            case 0: return told.saleMinute[i];
            case 1: return told.saleStall[i];
            case 2: return told.saleBuyer[i];
            default: return told.salePrice[i];
        }
    }

    public int all(int what) {
        if (!now.isTold()) {
            return NO_SUCH;
        }
        switch (what) {
            case 0: return toldHour().sales;
            case 1: return toldHour().paidInAll();
            case 2: return toldHour().lackInAll();
            case 3: return toldHour().buyersDone();
            case 4: return toldHour().busiestMinute();
            default: return NO_SUCH;
        }
    }

    public int best(int buyer) {
        if (!now.hasBuyer(buyer)) {
            return NO_SUCH;
        }
        alone.shop(now, toldHour().course, buyer, now.buyers[buyer].coins);
        return alone.pieces;
    }

    public int cost(int buyer) {
        if (!now.hasBuyer(buyer)) {
            return NO_SUCH;
        }
        alone.shop(now, toldHour().course, buyer, now.buyers[buyer].coins);
        return alone.spent;
    }

    public int choice(int buyer, int minute) {
        if (!now.hasBuyer(buyer) || !now.hasMinute(minute)) {
            return NO_SUCH;
        }
        alone.shop(now, toldHour().course, buyer, now.buyers[buyer].coins);
        return alone.inMinute[minute];
    }

    public int needs(int buyer) {
        if (!now.hasBuyer(buyer)) {
            return NO_SUCH;
        }
        alone.shop(now, toldHour().course, buyer, BOUNDLESS_COINS);
        return alone.pieces == now.buyers[buyer].wanted() ? alone.spent : NONE;
    }

    public int send(int from, int to, int minute, int what) {
        if (!now.hasPlace(from) || !now.hasPlace(to) || from == to || !now.hasMinute(minute)) {
            return NO_SUCH;
        }
        if (what < 0 || what > 1) {
            return NO_SUCH;
        }
        post.bring(now, toldHour().course, from, to, minute);
        return what == 0 ? post.arrival : post.byStalls;
    }

    public int round(int from, int minute) {
        if (!now.hasPlace(from) || !now.hasMinute(minute)) {
            return NO_SUCH;
        }
        Course course = toldHour().course;
        int latest = minute;
        for (int b = 0; b < now.buyerCount; b++) {
            int to = now.buyers[b].place;
            if (to == from) {
                continue;
            }
            post.bring(now, course, from, to, minute);
            if (post.arrival == NONE) {
                return NONE;
            }
            latest = Math.max(latest, post.arrival);
        }
        return latest;
    }

    public int swap(int what) {
        if (!now.isTold() || what < 0 || what > 1) {
            return NO_SUCH;
        }
        int most = toldHour().sales;
        int pair = NONE;
        for (int lesser = 0; lesser < now.buyerCount; lesser++) {
            for (int other = lesser + 1; other < now.buyerCount; other++) {
                int sales = salesIfSwapped(lesser, other);
                if (sales > most) {
                    most = sales;
                    pair = 10 * lesser + other;
                }
            }
        }
        return what == 0 ? most : pair;
    }

    public int moves(int buyer, int place) {
        if (!now.hasBuyer(buyer) || !now.hasPlace(place)) {
            return NO_SUCH;
        }
        int old = now.buyers[buyer].place;
        now.buyers[buyer].place = place;
        played = false;
        return old;
    }

    public int offer(int stall, int price) {
        if (!now.hasStall(stall) || price < 0 || price > MOST_PRICE) {
            return NO_SUCH;
        }
        int old = now.stalls[stall].price;
        now.stalls[stall].price = price;
        played = false;
        return old;
    }

    public int wise(int stall) {
        if (!now.hasStall(stall)) {
            return NO_SUCH;
        }
        Market trial = trialMarket();
        int most = NONE;
        int wisest = 0;
        for (int price = 0; price <= MOST_PRICE; price++) {
            trial.stalls[stall].price = price;
            int taken = trialHour(trial).takenAt(stall);
            if (taken > most) {
                most = taken;
                wisest = price;
            }
        }
        return wisest;
    }

    public int theft(int slot, int what) {
        if (!isSlot(slot) || what < 0 || what > 2 || !now.isTold()) {
            return NO_SUCH;
        }
        Row row = rows[slot];
        if (!row.isThere) {
            return EMPTY;
        }
        // the row is held against the stalls one by one: a number behind them would be of none
        if (row.length != now.stallCount) {
            return BEYOND;
        }
        if (!row.isWithin(0, MOST_PIECES)) {
            return NO_SUCH;
        }
        return thefts(row, what);
    }

    public int passed(int stall, int from, int to) {
        if (!now.hasStall(stall) || !now.hasMinute(from) || !now.hasMinute(to) || to < from) {
            return NO_SUCH;
        }
        Course course = toldHour().course;
        int bits = 0;
        for (int m = from; m <= to; m++) {
            bits |= now.buyersAt(course.place[stall][m]);
        }
        return bits;
    }

    public int harm(int ring, int minute) {
        if (!now.hasRing(ring) || !now.hasMinute(minute)) {
            return NO_SUCH_HARM;
        }
        return toldHour().sales - salesIfStuck(ring, minute);
    }

    public int least(int minute) {
        if (!now.hasMinute(minute)) {
            return NO_SUCH;
        }
        // the least harm is where the most sales are left
        int most = NONE;
        int found = NONE;
        for (int r = 0; r < now.ringCount; r++) {
            int sales = salesIfStuck(r, minute);
            if (sales > most) {
                most = sales;
                found = r;
            }
        }
        return found;
    }

    public int turn(int ring, int n) {
        if (!now.hasRing(ring) || n < 0 || n > MOST_TURNS) {
            return NO_SUCH;
        }
        int old = now.rings[ring].turns;
        now.rings[ring].turns = n;
        played = false;
        return old;
    }

    public int again() {
        if (!now.isTold()) {
            return NO_SUCH;
        }
        for (int n = 1; n <= MOST_PERIOD; n++) {
            if (areRingsRound(n)) {
                return n;
            }
        }
        return NONE;
    }

    public int drawn(int seed, int odds) {
        if (!now.isTold() || !areOdds(seed, odds)) {
            return NO_SUCH;
        }
        return drawnHour(seed, odds).sales;
    }

    public int chance(int seed, int n, int odds, int buyer) {
        if (!areOdds(seed, odds) || n < 1 || n > MOST_HOURS || !now.hasBuyer(buyer)) {
            return NO_SUCH;
        }
        int times = 0;
        for (int i = 0; i < n; i++) {
            if (drawnHour(seed + i, odds).doneIn[buyer] != NONE) {
                times++;
            }
        }
        return times;
    }

    public int judge(int slot) {
        if (!isSlot(slot) || !now.isTold()) {
            return NO_SUCH;
        }
        Row row = rows[slot];
        if (!row.isThere) {
            return EMPTY;
        }
        Hour told = toldHour();
        int right = 0;
        while (right < row.length && right < told.sales && row.numbers[right] == told.salePrice[right]) {
            right++;
        }
        return right;
    }

    public int count(int what) {
        switch (what) {
            case 0: return now.places;
            case 1: return now.minutes;
            case 2: return now.ringCount;
            case 3: return now.stallCount;
            case 4: return now.buyerCount;
            case 5: return now.lines;
            case 6: return reader.length;
            case 7: return now.stuckMinutes();
            case 8: return rowsThere();
            default: return NONE;
        }
    }

    public int keep(int k) {
        if (k < 0 || k >= IMAGES) {
            return NO_SUCH;
        }
        images[k].take(now);
        kept[k] = true;
        return 0;
    }

    public int back(int k) {
        if (k < 0 || k >= IMAGES) {
            return NO_SUCH;
        }
        if (!kept[k]) {
            return EMPTY;
        }
        now.take(images[k]);
        played = false;
        return 0;
    }

    public int row(int slot, int width, int n) {
        if (!isSlot(slot) || width < 0 || width >= WIDTHS || n > MOST_NUMBERS) {
            return NO_SUCH;
        }
        if (n < 0) {
            return BELOW_NOTHING;
        }
        rows[slot].begin(width, n);
        return 0;
    }

    public int write(int slot, int i, long v) {
        if (!isSlot(slot)) {
            return NO_SUCH;
        }
        Row row = rows[slot];
        if (!row.isThere) {
            return EMPTY;
        }
        if (i < 0 || i >= row.length) {
            return BEYOND;
        }
        row.numbers[i] = row.cut(v);
        return 0;
    }

    public int paste(int slot, int i, int to, int k, int n) {
        if (!isSlot(slot) || !isSlot(to)) {
            return NO_SUCH;
        }
        Row source = rows[slot];
        Row target = rows[to];
        if (!source.isThere || !target.isThere) {
            return EMPTY;
        }
        if (source.width != target.width) {
            return UNLIKE;
        }
        if (!source.holds(i, n) || !target.holds(k, n)) {
            return BEYOND;
        }
        System.arraycopy(source.numbers, i, target.numbers, k, n);
        return 0;
    }

    private static boolean isSlot(int slot) {
        return slot >= 0 && slot < SLOTS;
    }

    private static boolean areOdds(int seed, int odds) {
        return seed >= 0 && seed <= MOST_SEED && odds >= 0 && odds <= MOST_ODDS;
    }

    private boolean areTwoStalls(int stall, int other) {
        return now.hasStall(stall) && now.hasStall(other) && stall != other;
    }

    private int rowsThere() {
        int there = 0;
        for (Row row : rows) {
            if (row.isThere) {
                there++;
            }
        }
        return there;
    }

    private boolean areRingsRound(int minutes) {
        for (int r = 0; r < now.ringCount; r++) {
            int once = now.rings[r].turns * now.places;
            if (once > 0 && minutes % once != 0) {
                return false;
            }
        }
        return true;
    }

    private Hour toldHour() {
        if (!played) {
            hour.play(now);
            played = true;
        }
        return hour;
    }

    private Market trialMarket() {
        draft.take(now);
        return draft;
    }

    private Hour trialHour(Market trial) {
        hour.play(trial);
        played = false;
        return hour;
    }

    private int salesIfSwapped(int buyer, int other) {
        Market trial = trialMarket();
        trial.buyers[buyer].place = now.buyers[other].place;
        trial.buyers[other].place = now.buyers[buyer].place;
        return trialHour(trial).sales;
    }

    private int salesIfStuck(int ring, int minute) {
        Market trial = trialMarket();
        trial.rings[ring].stuck |= -1L << minute;
        return trialHour(trial).sales;
    }

    private Hour drawnHour(int seed, int odds) {
        Market trial = trialMarket();
        long x = seed;
        for (int m = 0; m < trial.minutes; m++) {
            for (int r = 0; r < trial.ringCount; r++) {
                x = (1103515245L * x + 12345L) % 2147483648L;
                if (x / 65536L % 100L < odds) {
                    trial.rings[r].stuck |= 1L << m;
                }
            }
        }
        return trialHour(trial);
    }

    private int thefts(Row row, int what) {
        Hour told = toldHour();
        int robbed = 0;
        int first = NONE;
        int missing = 0;
        for (int s = 0; s < now.stallCount; s++) {
            int lost = told.left[s][now.minutes - 1] - (int) row.numbers[s];
            if (lost > 0) {
                robbed++;
                first = first == NONE ? s : first;
                missing += lost;
            }
        }
        switch (what) {
            case 0: return robbed;
            case 1: return first;
            default: return missing;
        }
    }

    private static final class Ring {
        int turns;
        boolean east;
        /** A bit for each minute in which it is stuck. */
        long stuck;

        void take(Ring ring) {
            turns = ring.turns;
            east = ring.east;
            stuck = ring.stuck;
        }
    }

    private static final class Stall {
        int ring;
        int spot;
        int good;
        int pieces;
        int price;
        int kind;
        int step;

        void take(Stall stall) {
            ring = stall.ring;
            spot = stall.spot;
            good = stall.good;
            pieces = stall.pieces;
            price = stall.price;
            kind = stall.kind;
            step = stall.step;
        }
    }

    private static final class Buyer {
        int place;
        int coins;
        int habit;
        int wants;
        final int[] good = new int[MOST_WANTS];
        final int[] pieces = new int[MOST_WANTS];
        final int[] limit = new int[MOST_WANTS];

        void take(Buyer buyer) {
            place = buyer.place;
            coins = buyer.coins;
            habit = buyer.habit;
            wants = buyer.wants;
            System.arraycopy(buyer.good, 0, good, 0, MOST_WANTS);
            System.arraycopy(buyer.pieces, 0, pieces, 0, MOST_WANTS);
            System.arraycopy(buyer.limit, 0, limit, 0, MOST_WANTS);
        }

        int wantOf(int wanted) {
            for (int w = 0; w < wants; w++) {
                if (good[w] == wanted) {
                    return w;
                }
            }
            return NONE;
        }

        int wanted() {
            int sum = 0;
            for (int w = 0; w < wants; w++) {
                sum += pieces[w];
            }
            return sum;
        }
    }

    /** A market as it stands; without lines there is none. */
    private static final class Market {
        int places;
        int minutes;
        int lines;
        int ringCount;
        int stallCount;
        int buyerCount;
        final Ring[] rings = new Ring[MOST_RINGS];
        final Stall[] stalls = new Stall[MOST_STALLS];
        final Buyer[] buyers = new Buyer[MOST_BUYERS];

        Market() {
            for (int r = 0; r < MOST_RINGS; r++) {
                rings[r] = new Ring();
            }
            for (int s = 0; s < MOST_STALLS; s++) {
                stalls[s] = new Stall();
            }
            for (int b = 0; b < MOST_BUYERS; b++) {
                buyers[b] = new Buyer();
            }
        }

        void clear() {
            places = 0;
            minutes = 0;
            lines = 0;
            ringCount = 0;
            stallCount = 0;
            buyerCount = 0;
        }

        void take(Market market) {
            places = market.places;
            minutes = market.minutes;
            lines = market.lines;
            ringCount = market.ringCount;
            stallCount = market.stallCount;
            buyerCount = market.buyerCount;
            for (int r = 0; r < ringCount; r++) {
                rings[r].take(market.rings[r]);
            }
            for (int s = 0; s < stallCount; s++) {
                stalls[s].take(market.stalls[s]);
            }
            for (int b = 0; b < buyerCount; b++) {
                buyers[b].take(market.buyers[b]);
            }
        }

        boolean isTold() {
            return lines > 0;
        }

        boolean hasPlace(int place) {
            return place >= 0 && place < places;
        }

        boolean hasMinute(int minute) {
            return minute >= 0 && minute < minutes;
        }

        boolean hasRing(int ring) {
            return ring >= 0 && ring < ringCount;
        }

        boolean hasStall(int stall) {
            return stall >= 0 && stall < stallCount;
        }

        boolean hasBuyer(int buyer) {
            return buyer >= 0 && buyer < buyerCount;
        }

        /** A bit for each buyer who stands at a place. */
        int buyersAt(int place) {
            int bits = 0;
            for (int b = 0; b < buyerCount; b++) {
                if (buyers[b].place == place) {
                    bits |= 1 << b;
                }
            }
            return bits;
        }

        int stuckMinutes() {
            int sum = 0;
            for (int r = 0; r < ringCount; r++) {
                sum += Long.bitCount(rings[r].stuck);
            }
            return sum;
        }
    }

    /** The tape, and how it is read as a market; behind the first fault nothing that is read counts. */
    private static final class Reader {
        static final int CANNOT_STAND = 1;
        static final int OUT_OF_BOUNDS = 2;
        static final int TOO_MANY = 3;

        static final int END = 0;
        static final int WORD = 1;
        static final int NUMBER = 2;
        static final int SIGN = 3;
        static final int OTHER = 4;

        /** Above every bound, and ten times it is an int still. */
        static final int TOO_HIGH = 100000;

        final byte[] bytes = new byte[MOST_BYTES];
        int length = 0;
        int fault = 0;
        int faultPlace = NONE;

        private int from;
        private int upTo;
        private int sort;
        private int value;
        private int stucksTold;

        void add(int number) {
            for (int shift = 24; shift >= 0 && length < MOST_BYTES; shift -= 8) {
                bytes[length] = (byte) (number >> shift);
                length++;
            }
        }

        /** Reads the tape and empties it; false if it has a fault. */
        boolean read(Market into) {
            fault = 0;
            faultPlace = NONE;
            upTo = 0;
            stucksTold = 0;
            into.clear();
            next();
            for (int n = 0; n < MOST_BYTES && fault == 0 && sort != END; n++) {
                readLine(into);
            }
            length = 0;
            return fault == 0;
        }

        private void readLine(Market into) {
            if (into.lines == 0) {
                readMarket(into);
            } else if (isWord("ring")) {
                readRing(into);
            } else if (isWord("stall")) {
                readStall(into);
            } else if (isWord("buyer")) {
                readBuyer(into);
            } else if (isWord("wants")) {
                readWants(into);
            } else if (isWord("stuck")) {
                readStuck(into);
            } else {
                refuse(CANNOT_STAND);
            }
            sign();
            into.lines++;
        }

        private void readMarket(Market into) {
            word("market");
            word("places");
            into.places = number(LEAST_PLACES, MOST_PLACES);
            word("minutes");
            into.minutes = number(1, MOST_MINUTES);
        }

        private void readRing(Market into) {
            if (isFull(into.ringCount, MOST_RINGS)) {
                return;
            }
            Ring ring = into.rings[into.ringCount];
            next();
            word("turns");
            ring.turns = number(0, MOST_TURNS);
            ring.east = isWord("east");
            if (!ring.east && !isWord("west")) {
                refuse(CANNOT_STAND);
            }
            next();
            ring.stuck = 0L;
            into.ringCount++;
        }

        private void readStall(Market into) {
            if (isFull(into.stallCount, MOST_STALLS)) {
                return;
            }
            Stall stall = into.stalls[into.stallCount];
            next();
            stall.ring = number(0, into.ringCount - 1);
            word("at");
            stall.spot = number(0, into.places - 1);
            word("sells");
            stall.good = number(0, LAST_GOOD);
            word("pieces");
            stall.pieces = number(0, MOST_PIECES);
            word("price");
            stall.price = number(0, MOST_PRICE);
            readKind(stall);
            stall.step = stall.kind == FIXED ? 0 : number(1, MOST_STEP);
            into.stallCount++;
        }

        private void readKind(Stall stall) {
            if (isWord("fixed")) {
                stall.kind = FIXED;
            } else if (isWord("falls")) {
                stall.kind = FALLS;
            } else if (isWord("learns")) {
                stall.kind = LEARNS;
            } else {
                refuse(CANNOT_STAND);
            }
            next();
        }

        private void readBuyer(Market into) {
            if (isFull(into.buyerCount, MOST_BUYERS)) {
                return;
            }
            Buyer buyer = into.buyers[into.buyerCount];
            next();
            word("at");
            buyer.place = number(0, into.places - 1);
            word("coins");
            buyer.coins = number(0, MOST_COINS);
            word("habit");
            readHabit(buyer);
            buyer.wants = 0;
            into.buyerCount++;
        }

        private void readHabit(Buyer buyer) {
            if (isWord("eager")) {
                buyer.habit = EAGER;
            } else if (isWord("thrifty")) {
                buyer.habit = THRIFTY;
            } else if (isWord("slow")) {
                buyer.habit = SLOW;
            } else {
                refuse(CANNOT_STAND);
            }
            next();
        }

        private void readWants(Market into) {
            next();
            int b = numberHere(0, into.buyerCount - 1);
            if (fault != 0 || isFull(into.buyers[b].wants, MOST_WANTS)) {
                return;
            }
            Buyer buyer = into.buyers[b];
            next();
            int good = numberHere(0, LAST_GOOD);
            if (fault == 0 && buyer.wantOf(good) != NONE) {
                refuse(OUT_OF_BOUNDS);
            }
            next();
            int w = buyer.wants;
            buyer.good[w] = good;
            word("pieces");
            buyer.pieces[w] = number(1, MOST_WANTED);
            word("limit");
            buyer.limit[w] = number(0, MOST_PRICE);
            buyer.wants++;
        }

        private void readStuck(Market into) {
            if (isFull(stucksTold, MOST_STUCK)) {
                return;
            }
            next();
            int r = number(0, into.ringCount - 1);
            word("from");
            int first = number(0, into.minutes - 1);
            word("to");
            int last = number(first, into.minutes - 1);
            if (fault != 0) {
                return;
            }
            for (int m = first; m <= last; m++) {
                into.rings[r].stuck |= 1L << m;
            }
            stucksTold++;
        }

        /** Only the first fault counts: what is read behind it may be anything. */
        private void refuse(int what) {
            if (fault == 0) {
                fault = what;
                faultPlace = from;
            }
        }

        private boolean isFull(int told, int most) {
            if (told >= most) {
                refuse(TOO_MANY);
            }
            return told >= most;
        }

        private void word(String expected) {
            if (!isWord(expected)) {
                refuse(CANNOT_STAND);
            }
            next();
        }

        private void sign() {
            if (sort != SIGN) {
                refuse(CANNOT_STAND);
            }
            next();
        }

        private int number(int least, int most) {
            int read = numberHere(least, most);
            next();
            return read;
        }

        private int numberHere(int least, int most) {
            if (sort != NUMBER) {
                refuse(CANNOT_STAND);
                return least;
            }
            if (value < least || value > most) {
                refuse(OUT_OF_BOUNDS);
                return least;
            }
            return value;
        }

        private boolean isWord(String expected) {
            if (sort != WORD || upTo - from != expected.length()) {
                return false;
            }
            for (int i = 0; i < expected.length(); i++) {
                if (bytes[from + i] != expected.charAt(i)) {
                    return false;
                }
            }
            return true;
        }

        private void next() {
            from = upTo;
            while (from < length && (bytes[from] == ' ' || bytes[from] == '\n')) {
                from++;
            }
            upTo = from;
            if (from >= length) {
                sort = END;
            } else if (isLetter(bytes[from])) {
                takeWord();
            } else if (isDigit(bytes[from])) {
                takeNumber();
            } else {
                sort = bytes[from] == ';' ? SIGN : OTHER;
                upTo++;
            }
        }

        private void takeWord() {
            sort = WORD;
            while (upTo < length && isLetter(bytes[upTo])) {
                upTo++;
            }
        }

        private void takeNumber() {
            sort = NUMBER;
            value = 0;
            while (upTo < length && isDigit(bytes[upTo])) {
                value = Math.min(TOO_HIGH, 10 * value + bytes[upTo] - '0');
                upTo++;
            }
        }

        private static boolean isLetter(int sign) {
            return sign >= 'a' && sign <= 'z';
        }

        private static boolean isDigit(int sign) {
            return sign >= '0' && sign <= '9';
        }
    }

    /** How the rings turn, and where that takes the stalls. */
    private static final class Course {
        final int[][] turned = new int[MOST_RINGS][MOST_MINUTES];
        final int[][] place = new int[MOST_STALLS][MOST_MINUTES];

        void follow(Market market) {
            for (int r = 0; r < market.ringCount; r++) {
                turnRing(market.rings[r], turned[r], market.minutes);
            }
            for (int s = 0; s < market.stallCount; s++) {
                carry(market, s);
            }
        }

        private static void turnRing(Ring ring, int[] turns, int minutes) {
            int done = 0;
            int passed = 0;
            for (int m = 0; m < minutes; m++) {
                if ((ring.stuck >> m & 1L) == 0L) {
                    if (ring.turns > 0 && passed == ring.turns) {
                        done++;
                        passed = 0;
                    }
                    passed++;
                }
                turns[m] = done;
            }
        }

        private void carry(Market market, int s) {
            Stall stall = market.stalls[s];
            Ring ring = market.rings[stall.ring];
            if (market.places <= 0) {
                return;
            }
            for (int m = 0; m < market.minutes; m++) {
                int way = ring.east ? turned[stall.ring][m] : -turned[stall.ring][m];
                place[s][m] = Math.floorMod(stall.spot + way, market.places);
            }
        }

        /** What a stall asks in a minute while nobody buys or is there. */
        int quietPrice(Stall stall, int minute) {
            if (stall.kind != FALLS) {
                return stall.price;
            }
            return Math.max(0, stall.price - stall.step * turned[stall.ring][minute]);
        }
    }

    /** An hour of a market, minute by minute, and what came of it. */
    private static final class Hour {
        /** So long ago that no habit remembers it. */
        static final int LONG_AGO = -3;

        final Course course = new Course();
        final int[][] asked = new int[MOST_STALLS][MOST_MINUTES];
        final int[][] left = new int[MOST_STALLS][MOST_MINUTES];
        final int[][] purse = new int[MOST_BUYERS][MOST_MINUTES];
        int sales;
        final int[] saleMinute = new int[MOST_SALES];
        final int[] saleStall = new int[MOST_SALES];
        final int[] saleBuyer = new int[MOST_SALES];
        final int[] salePrice = new int[MOST_SALES];
        final int[] doneIn = new int[MOST_BUYERS];

        private Market market;
        private final int[] price = new int[MOST_STALLS];
        private final int[] stock = new int[MOST_STALLS];
        private final boolean[] soldNow = new boolean[MOST_STALLS];
        private final boolean[] tooDearNow = new boolean[MOST_STALLS];
        private final int[] coins = new int[MOST_BUYERS];
        private final int[][] lacks = new int[MOST_BUYERS][MOST_WANTS];
        private final int[] lastBought = new int[MOST_BUYERS];

        void play(Market played) {
            market = played;
            course.follow(played);
            begin();
            for (int m = 0; m < played.minutes; m++) {
                openMinute(m);
                for (int p = 0; p < played.places; p++) {
                    tradeAt(p, m);
                }
                closeMinute(m);
            }
        }

        private void begin() {
            sales = 0;
            for (int s = 0; s < market.stallCount; s++) {
                price[s] = market.stalls[s].price;
                stock[s] = market.stalls[s].pieces;
            }
            for (int b = 0; b < market.buyerCount; b++) {
                Buyer buyer = market.buyers[b];
                coins[b] = buyer.coins;
                System.arraycopy(buyer.pieces, 0, lacks[b], 0, buyer.wants);
                lastBought[b] = LONG_AGO;
                doneIn[b] = buyer.wants == 0 ? 0 : NONE;
            }
        }

        private void openMinute(int minute) {
            for (int s = 0; s < market.stallCount; s++) {
                if (market.stalls[s].kind == FALLS) {
                    price[s] = course.quietPrice(market.stalls[s], minute);
                }
                asked[s][minute] = price[s];
                soldNow[s] = false;
                tooDearNow[s] = false;
            }
        }

        private void tradeAt(int place, int minute) {
            int bits = market.buyersAt(place);
            if (bits == 0) {
                return;
            }
            for (int s = 0; s < market.stallCount; s++) {
                if (course.place[s][minute] != place) {
                    continue;
                }
                for (int b = 0; b < market.buyerCount; b++) {
                    if ((bits >> b & 1) == 1) {
                        meet(s, b, minute);
                    }
                }
            }
        }

        private void meet(int s, int b, int minute) {
            Buyer buyer = market.buyers[b];
            int w = buyer.wantOf(market.stalls[s].good);
            if (stock[s] == 0 || w == NONE || lacks[b][w] == 0) {
                return;
            }
            if (price[s] > buyer.limit[w] || price[s] > coins[b]) {
                tooDearNow[s] = true;
            } else if (wouldBuy(b, price[s], buyer.limit[w], minute)) {
                lacks[b][w]--;
                sell(s, b, minute);
            }
        }

        /** Whether his habit lets him buy what his limit and his coins allow. */
        private boolean wouldBuy(int b, int asks, int limit, int minute) {
            switch (market.buyers[b].habit) {
                case THRIFTY: return 2 * minute >= market.minutes || asks <= limit / 2;
                case SLOW: return lastBought[b] == minute || lastBought[b] < minute - 2;
                default: return true;
            }
        }

        private void sell(int s, int b, int minute) {
            stock[s]--;
            coins[b] -= price[s];
            soldNow[s] = true;
            lastBought[b] = minute;
            if (lackOf(b) == 0) {
                doneIn[b] = minute;
            }
            if (sales < MOST_SALES) {
                saleMinute[sales] = minute;
                saleStall[sales] = s;
                saleBuyer[sales] = b;
                salePrice[sales] = price[s];
                sales++;
            }
        }

        private void closeMinute(int minute) {
            for (int s = 0; s < market.stallCount; s++) {
                if (market.stalls[s].kind == LEARNS) {
                    learn(s, market.stalls[s].step);
                }
                left[s][minute] = stock[s];
            }
            for (int b = 0; b < market.buyerCount; b++) {
                purse[b][minute] = coins[b];
            }
        }

        private void learn(int s, int step) {
            if (soldNow[s]) {
                price[s] = Math.min(MOST_PRICE, price[s] + step);
            } else if (tooDearNow[s]) {
                price[s] = Math.max(0, price[s] - step);
            }
        }

        int salesAt(int stall) {
            int n = 0;
            for (int i = 0; i < sales; i++) {
                if (saleStall[i] == stall) {
                    n++;
                }
            }
            return n;
        }

        int takenAt(int stall) {
            int sum = 0;
            for (int i = 0; i < sales; i++) {
                if (saleStall[i] == stall) {
                    sum += salePrice[i];
                }
            }
            return sum;
        }

        int firstMinuteAt(int stall) {
            for (int i = 0; i < sales; i++) {
                if (saleStall[i] == stall) {
                    return saleMinute[i];
                }
            }
            return NONE;
        }

        int salesTo(int buyer) {
            int n = 0;
            for (int i = 0; i < sales; i++) {
                if (saleBuyer[i] == buyer) {
                    n++;
                }
            }
            return n;
        }

        int spentBy(int buyer) {
            return market.buyers[buyer].coins - coins[buyer];
        }

        int lackOf(int buyer) {
            int sum = 0;
            for (int w = 0; w < market.buyers[buyer].wants; w++) {
                sum += lacks[buyer][w];
            }
            return sum;
        }

        int paidInAll() {
            int sum = 0;
            for (int i = 0; i < sales; i++) {
                sum += salePrice[i];
            }
            return sum;
        }

        int lackInAll() {
            int sum = 0;
            for (int b = 0; b < market.buyerCount; b++) {
                sum += lackOf(b);
            }
            return sum;
        }

        int buyersDone() {
            int n = 0;
            for (int b = 0; b < market.buyerCount; b++) {
                if (doneIn[b] != NONE) {
                    n++;
                }
            }
            return n;
        }

        int busiestMinute() {
            int busiest = NONE;
            int most = 0;
            int here = 0;
            for (int i = 0; i < sales; i++) {
                boolean sameMinute = i > 0 && saleMinute[i] == saleMinute[i - 1];
                here = sameMinute ? here + 1 : 1;
                if (here > most) {
                    most = here;
                    busiest = saleMinute[i];
                }
            }
            return busiest;
        }
    }

    /**
     * A buyer alone who always takes the cheapest piece next. What bounds him (pieces of a stall,
     * of a good, coins) is such that this is also the most pieces, for the least coins.
     */
    private static final class Alone {
        int pieces;
        int spent;
        final int[] inMinute = new int[MOST_MINUTES];

        private Market market;
        private Course course;
        private Buyer buyer;
        private final int[] lacks = new int[MOST_WANTS];
        /** Of each stall a bit for each minute in which he takes a piece there. */
        private final long[] taken = new long[MOST_STALLS];
        private int nextStall;
        private int nextMinute;
        private int nextPrice;

        void shop(Market shopped, Course followed, int b, int coins) {
            market = shopped;
            course = followed;
            buyer = shopped.buyers[b];
            pieces = 0;
            spent = 0;
            Arrays.fill(inMinute, 0);
            Arrays.fill(taken, 0L);
            System.arraycopy(buyer.pieces, 0, lacks, 0, MOST_WANTS);
            int wanted = buyer.wanted();
            for (int n = 0; n < wanted && findNext() && nextPrice <= coins - spent; n++) {
                takeNext();
            }
        }

        private boolean findNext() {
            nextPrice = MOST_PRICE + 1;
            for (int m = 0; m < market.minutes; m++) {
                for (int s = 0; s < market.stallCount; s++) {
                    if (!isToBeHad(s, m)) {
                        continue;
                    }
                    int asks = course.quietPrice(market.stalls[s], m);
                    if (asks < nextPrice) {
                        nextStall = s;
                        nextMinute = m;
                        nextPrice = asks;
                    }
                }
            }
            return nextPrice <= MOST_PRICE;
        }

        private boolean isToBeHad(int s, int minute) {
            Stall stall = market.stalls[s];
            if (course.place[s][minute] != buyer.place || (taken[s] >> minute & 1L) == 1L) {
                return false;
            }
            int w = buyer.wantOf(stall.good);
            return w != NONE && lacks[w] > 0 && Long.bitCount(taken[s]) < stall.pieces
                && course.quietPrice(stall, minute) <= buyer.limit[w];
        }

        private void takeNext() {
            int w = buyer.wantOf(market.stalls[nextStall].good);
            if (w != NONE) {
                lacks[w]--;
            }
            taken[nextStall] |= 1L << nextMinute;
            inMinute[nextMinute]++;
            spent += nextPrice;
            pieces++;
        }
    }

    /** How a pear is sent: by how few stalls it can be at a place, on a stall, as the minutes go by. */
    private static final class Post {
        static final int NEVER = 1000000;

        int arrival;
        int byStalls;

        private final int[] held = new int[MOST_PLACES];
        private final int[] laid = new int[MOST_STALLS];

        void bring(Market market, Course course, int from, int to, int minute) {
            arrival = NONE;
            byStalls = NEVER;
            Arrays.fill(held, NEVER);
            Arrays.fill(laid, NEVER);
            held[from] = 0;
            for (int m = minute; m < market.minutes && arrival == NONE; m++) {
                unload(market, course, to, m);
                load(market, course, m);
            }
            if (arrival == NONE) {
                byStalls = NONE;
            }
        }

        private void unload(Market market, Course course, int to, int minute) {
            for (int s = 0; s < market.stallCount; s++) {
                int place = course.place[s][minute];
                if (laid[s] == NEVER) {
                    continue;
                }
                if (place == to) {
                    arrival = minute;
                    byStalls = Math.min(byStalls, laid[s]);
                } else if (market.buyersAt(place) != 0) {
                    held[place] = Math.min(held[place], laid[s]);
                }
            }
        }

        /** Comes behind unload: what is laid on a stall in a minute is elsewhere in a later one at first. */
        private void load(Market market, Course course, int minute) {
            for (int s = 0; s < market.stallCount; s++) {
                int place = course.place[s][minute];
                if (held[place] < NEVER) {
                    laid[s] = Math.min(laid[s], held[place] + 1);
                }
            }
        }
    }

    /** A slot's row of numbers, if there is one. */
    private static final class Row {
        boolean isThere = false;
        int width;
        int length;
        final long[] numbers = new long[MOST_NUMBERS];

        void begin(int newWidth, int newLength) {
            isThere = true;
            width = newWidth;
            length = newLength;
            Arrays.fill(numbers, 0L);
        }

        long cut(long v) {
            switch (width) {
                case 0: return (byte) v;
                case 1: return (short) v;
                case 2: return (int) v;
                default: return v;
            }
        }

        boolean holds(int first, int n) {
            return first >= 0 && n >= 0 && first <= length && n <= length - first;
        }

        boolean isWithin(int least, int most) {
            for (int i = 0; i < length; i++) {
                if (numbers[i] < least || numbers[i] > most) {
                    return false;
                }
            }
            return true;
        }
    }
}
