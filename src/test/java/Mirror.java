import java.util.Arrays;

/**
 * The whole face told once more over Model, for the test that compares runs of calls. A told market is never changed here:
 * a call that changes it puts a changed copy in its place, so that nothing that an earlier call found out can go stale.
 */
public final class Mirror {
    private String tape = "";
    private Model now = new Model().play();
    private int fault = 0;
    private int faultPlace = -1;
    private final Model[] images = new Model[3];
    private final long[][] rows = new long[4][];
    private final int[] widths = new int[4];

    // ---- the text

    public int feed(int a, int b, int c, int d, int e) {
        if (tape.length() + 20 > 2000) {
            return -1;
        }
        StringBuilder more = new StringBuilder(tape);
        for (int number : new int[] {a, b, c, d, e}) {
            for (int n = 3; n >= 0; n--) {
                more.append((char) (number >>> 8 * n & 255));
            }
        }
        tape = more.toString();
        return tape.length();
    }

    public int end(int n) {
        if (n < 0 || n > tape.length()) {
            return -1;
        }
        tape = tape.substring(0, n);
        return n;
    }

    public int market() {
        Model read = Model.read(tape);
        tape = "";
        fault = read.fault;
        faultPlace = read.faultPlace;
        if (fault != 0) {
            return -4;
        }
        now = read.play();
        return now.lines;
    }

    public int fault(int what) {
        return what == 0 ? fault : what == 1 ? faultPlace : -1;
    }

    // ---- what is told

    private boolean stalls(int... stalls) {
        return Arrays.stream(stalls).allMatch(s -> s >= 0 && s < now.stalls.size());
    }

    private boolean buyers(int buyer) {
        return buyer >= 0 && buyer < now.buyers.size();
    }

    private boolean rings(int ring) {
        return ring >= 0 && ring < now.rings.size();
    }

    private boolean places(int... places) {
        return Arrays.stream(places).allMatch(p -> p >= 0 && p < now.places);
    }

    private boolean minutes(int... minutes) {
        return Arrays.stream(minutes).allMatch(m -> m >= 0 && m < now.minutes);
    }

    private static boolean upTo(int what, int last) {
        return what >= 0 && what <= last;
    }

    public int stall(int stall, int what) {
        return stalls(stall) && upTo(what, 6) ? now.stalls.get(stall)[what] : -2;
    }

    public int buyer(int buyer, int what) {
        if (!buyers(buyer) || !upTo(what, 3)) {
            return -2;
        }
        return what == 3 ? now.wants.get(buyer).size() : now.buyers.get(buyer)[what];
    }

    public int want(int buyer, int i, int what) {
        boolean isThere = buyers(buyer) && i >= 0 && i < now.wants.get(buyer).size() && upTo(what, 2);
        return isThere ? now.wants.get(buyer).get(i)[what] : -2;
    }

    public int count(int what) {
        int stuck = 0;
        for (int r = 0; r < now.rings.size(); r++) {
            for (int m = 0; m < now.minutes; m++) {
                stuck += now.isStuck(r, m) ? 1 : 0;
            }
        }
        int there = 0;
        for (long[] row : rows) {
            there += row == null ? 0 : 1;
        }
        int[] counts = {now.places, now.minutes, now.rings.size(), now.stalls.size(), now.buyers.size(), now.lines,
            tape.length(), stuck, there};
        return upTo(what, 8) ? counts[what] : -1;
    }

    // ---- rings

    public int at(int stall, int minute) {
        return stalls(stall) && minutes(minute) ? now.at(stall, minute) : -2;
    }

    public int comes(int stall, int place, int minute) {
        if (!stalls(stall) || !places(place) || !minutes(minute)) {
            return -2;
        }
        int found = -1;
        for (int m = now.minutes - 1; m >= minute; m--) {
            found = now.at(stall, m) == place ? m : found;
        }
        return found;
    }

    public int there(int ring, int place, int minute) {
        if (!rings(ring) || !places(place) || !minutes(minute)) {
            return -2;
        }
        int found = -1;
        for (int s = now.stalls.size() - 1; s >= 0; s--) {
            found = now.stalls.get(s)[0] == ring && now.at(s, minute) == place ? s : found;
        }
        return found;
    }

    public int face(int stall, int other, int minute) {
        if (!stalls(stall, other) || stall == other || !minutes(minute)) {
            return -2;
        }
        int found = -1;
        for (int m = now.minutes - 1; m >= minute; m--) {
            found = now.at(stall, m) == now.at(other, m) ? m : found;
        }
        return found;
    }

    public int often(int stall, int other) {
        if (!stalls(stall, other) || stall == other) {
            return -2;
        }
        int times = 0;
        for (int m = 0; m < now.minutes; m++) {
            times += now.at(stall, m) == now.at(other, m) ? 1 : 0;
        }
        return times;
    }

    public int passed(int stall, int from, int to) {
        if (!stalls(stall) || !minutes(from, to) || to < from) {
            return -2;
        }
        int bits = 0;
        for (int b = 0; b < now.buyers.size(); b++) {
            int come = comes(stall, now.buyers.get(b)[0], from);
            bits += come >= 0 && come <= to ? 1 << b : 0;
        }
        return bits;
    }

    public int again() {
        return now.lines == 0 ? -2 : now.again();
    }

    // ---- the hour

    public int asks(int stall, int minute) {
        return stalls(stall) && minutes(minute) ? now.asked[stall][minute] : -2;
    }

    public int has(int stall, int minute) {
        return stalls(stall) && minutes(minute) ? now.has[stall][minute] : -2;
    }

    public int coins(int buyer, int minute) {
        return buyers(buyer) && minutes(minute) ? now.coins[buyer][minute] : -2;
    }

    public int sold(int stall, int what) {
        if (!stalls(stall) || !upTo(what, 2)) {
            return -2;
        }
        if (what < 2) {
            return now.sum(1, stall, what == 0 ? -1 : 3);
        }
        return now.sales.stream().filter(sale -> sale[1] == stall).mapToInt(sale -> sale[0]).findFirst().orElse(-1);
    }

    public int bought(int buyer, int what) {
        if (!buyers(buyer) || !upTo(what, 3)) {
            return -2;
        }
        int[] answers = {now.sum(2, buyer, -1), now.sum(2, buyer, 3), now.lacks[buyer], now.doneIn[buyer]};
        return answers[what];
    }

    public int sale(int i, int what) {
        if (now.lines == 0 || !upTo(what, 3)) {
            return -2;
        }
        return i >= 0 && i < now.sales.size() ? now.sales.get(i)[what] : -1;
    }

    public int all(int what) {
        if (now.lines == 0 || !upTo(what, 4)) {
            return -2;
        }
        int[] answers = {now.sales.size(), now.sales.stream().mapToInt(sale -> sale[3]).sum(), Arrays.stream(now.lacks).sum(),
            (int) Arrays.stream(now.lacks).filter(n -> n == 0).count(), now.busiest()};
        return answers[what];
    }

    // ---- a buyer alone, a pear

    public int best(int buyer) {
        return buyers(buyer) ? now.best(buyer) : -2;
    }

    public int cost(int buyer) {
        return buyers(buyer) ? now.cost(buyer) : -2;
    }

    public int choice(int buyer, int minute) {
        return buyers(buyer) && minutes(minute) ? now.choice(buyer)[minute] : -2;
    }

    public int needs(int buyer) {
        return buyers(buyer) ? now.needs(buyer) : -2;
    }

    public int send(int from, int to, int minute, int what) {
        return places(from, to) && from != to && minutes(minute) && upTo(what, 1) ? now.send(from, to, minute)[what] : -2;
    }

    public int round(int from, int minute) {
        if (!places(from) || !minutes(minute)) {
            return -2;
        }
        int latest = minute;
        for (int[] buyer : now.buyers) {
            int there = buyer[0] == from ? minute : now.send(from, buyer[0], minute)[0];
            latest = latest < 0 || there < 0 ? -1 : Math.max(latest, there);
        }
        return latest;
    }

    // ---- trials

    public int swap(int what) {
        return now.lines > 0 && upTo(what, 1) ? now.swap()[what] : -2;
    }

    public int wise(int stall) {
        return stalls(stall) ? now.wise(stall) : -2;
    }

    public int harm(int ring, int minute) {
        return rings(ring) && minutes(minute) ? now.sales.size() - now.salesIfStuck(ring, minute) : -2000000;
    }

    public int least(int minute) {
        if (!minutes(minute)) {
            return -2;
        }
        int found = now.rings.isEmpty() ? -1 : 0;
        for (int r = 1; r < now.rings.size(); r++) {
            found = harm(r, minute) < harm(found, minute) ? r : found;
        }
        return found;
    }

    public int drawn(int seed, int odds) {
        return now.lines > 0 && upTo(seed, 2000000000) && upTo(odds, 100) ? now.drawn(seed, odds).sales.size() : -2;
    }

    public int chance(int seed, int n, int odds, int buyer) {
        if (!upTo(seed, 2000000000) || n < 1 || n > 20 || !upTo(odds, 100) || !buyers(buyer)) {
            return -2;
        }
        int times = 0;
        for (int i = 0; i < n; i++) {
            times += now.drawn(seed + i, odds).doneIn[buyer] < 0 ? 0 : 1;
        }
        return times;
    }

    // ---- changes

    public int moves(int buyer, int place) {
        if (!buyers(buyer) || !places(place)) {
            return -2;
        }
        Model changed = now.copy();
        changed.buyers.get(buyer)[0] = place;
        return behind(changed, now.buyers.get(buyer)[0]);
    }

    public int offer(int stall, int price) {
        if (!stalls(stall) || !upTo(price, 99)) {
            return -2;
        }
        Model changed = now.copy();
        changed.stalls.get(stall)[4] = price;
        return behind(changed, now.stalls.get(stall)[4]);
    }

    public int turn(int ring, int n) {
        if (!rings(ring) || !upTo(n, 60)) {
            return -2;
        }
        Model changed = now.copy();
        changed.rings.get(ring)[0] = n;
        return behind(changed, now.rings.get(ring)[0]);
    }

    private int behind(Model changed, int answer) {
        now = changed.play();
        return answer;
    }

    public int keep(int k) {
        if (!upTo(k, 2)) {
            return -2;
        }
        images[k] = now;
        return 0;
    }

    public int back(int k) {
        if (!upTo(k, 2)) {
            return -2;
        }
        if (images[k] == null) {
            return -6;
        }
        now = images[k];
        return 0;
    }

    // ---- rows

    public int row(int slot, int width, int n) {
        if (!upTo(slot, 3) || !upTo(width, 3) || n > 60) {
            return -2;
        }
        if (n < 0) {
            return -3;
        }
        rows[slot] = new long[n];
        widths[slot] = width;
        return 0;
    }

    public int write(int slot, int i, long v) {
        if (!upTo(slot, 3)) {
            return -2;
        }
        if (rows[slot] == null) {
            return -6;
        }
        if (i < 0 || i >= rows[slot].length) {
            return -7;
        }
        int above = 64 - (8 << widths[slot]);
        rows[slot][i] = v << above >> above;
        return 0;
    }

    public int paste(int slot, int i, int to, int k, int n) {
        if (!upTo(slot, 3) || !upTo(to, 3)) {
            return -2;
        }
        if (rows[slot] == null || rows[to] == null) {
            return -6;
        }
        if (widths[slot] != widths[to]) {
            return -8;
        }
        if (i < 0 || k < 0 || n < 0 || (long) i + n > rows[slot].length || (long) k + n > rows[to].length) {
            return -7;
        }
        long[] source = rows[slot].clone();
        for (int j = 0; j < n; j++) {
            rows[to][k + j] = source[i + j];
        }
        return 0;
    }

    public int theft(int slot, int what) {
        if (!upTo(slot, 3) || !upTo(what, 2) || now.lines == 0) {
            return -2;
        }
        return rows[slot] == null ? -6 : now.theft(rows[slot], what);
    }

    public int judge(int slot) {
        if (!upTo(slot, 3) || now.lines == 0) {
            return -2;
        }
        if (rows[slot] == null) {
            return -6;
        }
        int n = 0;
        while (n < Math.min(rows[slot].length, now.sales.size()) && rows[slot][n] == now.sales.get(n)[3]) {
            n++;
        }
        return n;
    }
}
