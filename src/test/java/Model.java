import java.util.ArrayList;
import java.util.Arrays;
import java.util.Collections;
import java.util.HashMap;
import java.util.List;
import java.util.Map;

/**
 * The document told once more, in other ways than the class tells it, for the tests that compare
 * the two: a table of line patterns, sorted lists of meetings, sums over goods, waves of stalls.
 */
final class Model {
    static final int INF = 1000000000;

    int places;
    int minutes;
    int lines;
    List<int[]> rings = new ArrayList<>();   // turns, 1 east or -1 west
    List<int[]> stalls = new ArrayList<>();  // ring, spot, good, pieces, price, kind, step
    List<int[]> buyers = new ArrayList<>();  // place, coins, habit
    List<List<int[]>> wants = new ArrayList<>(); // good, pieces, limit
    List<int[]> stuck = new ArrayList<>();   // ring, from, to

    // of an hour
    List<int[]> sales = new ArrayList<>();   // minute, stall, buyer, price
    int[][] asked;
    int[][] has;
    int[][] coins;
    int[] doneIn;
    int[] lacks;

    // of a reading
    int fault = 0;
    int faultPlace = -1;

    Model copy() {
        Model m = new Model();
        m.places = places;
        m.minutes = minutes;
        m.lines = lines;
        rings.forEach(r -> m.rings.add(r.clone()));
        stalls.forEach(s -> m.stalls.add(s.clone()));
        buyers.forEach(b -> m.buyers.add(b.clone()));
        wants.forEach(w -> {
            List<int[]> own = new ArrayList<>();
            w.forEach(x -> own.add(x.clone()));
            m.wants.add(own);
        });
        stuck.forEach(s -> m.stuck.add(s.clone()));
        return m;
    }

    // ---- reading

    private static final String[] LINES = {
        "market places P minutes M ;", "ring turns T east|west ;", "stall R at S sells G pieces Q price L KIND ;",
        "buyer at S coins C habit eager|thrifty|slow ;", "wants B W pieces Y limit L ;", "stuck R from F to U ;"};

    static Model read(String text) {
        List<String> tokens = new ArrayList<>();
        List<Integer> at = new ArrayList<>();
        java.util.regex.Matcher m = java.util.regex.Pattern.compile("[a-z]+|[0-9]+|[^ \n]", java.util.regex.Pattern.DOTALL).matcher(text);
        while (m.find()) {
            tokens.add(m.group());
            at.add(m.start());
        }
        at.add(text.length());
        Model model = new Model();
        int i = 0;
        while (i < tokens.size() && model.fault == 0) {
            i = model.readLine(tokens, i);
        }
        if (model.fault != 0) {
            Model bad = new Model();
            bad.fault = model.fault;
            bad.faultPlace = at.get(-1 - i);
            return bad;
        }
        return model;
    }

    /** The next line's first token; or, with a fault, -1 less the token at fault. */
    private int readLine(List<String> tokens, int start) {
        String head = tokens.get(start);
        String pattern = null;
        for (String line : LINES) {
            if (line.startsWith(head + " ") && line.startsWith("market") == (lines == 0)) {
                pattern = line;
            }
        }
        if (pattern == null) {
            return bad(1, start);
        }
        if (head.equals("ring") && rings.size() == 3 || head.equals("stall") && stalls.size() == 8
            || head.equals("buyer") && buyers.size() == 6 || head.equals("stuck") && stuck.size() == 4) {
            return bad(3, start);
        }
        List<Integer> numbers = new ArrayList<>();
        List<String> choices = new ArrayList<>();
        int i = start;
        for (String part : pattern.split(" ")) {
            String token = i < tokens.size() ? tokens.get(i) : "";
            if (part.equals("KIND")) {
                if (token.equals("fixed")) {
                    numbers.add(0);
                } else if (token.equals("falls") || token.equals("learns")) {
                    i++;
                    String step = i < tokens.size() ? tokens.get(i) : "";
                    int f = numberFault(step, 1, 20);
                    if (f != 0) {
                        return bad(f, i);
                    }
                    numbers.add(Integer.parseInt(trim(step)));
                } else {
                    return bad(1, i);
                }
                choices.add(token);
            } else if (part.length() == 1 && Character.isUpperCase(part.charAt(0))) {
                int f = numberFault(part.charAt(0), token, numbers);
                if (f != 0) {
                    return bad(f, i);
                }
                numbers.add(Integer.parseInt(trim(token)));
            } else if (part.contains("|")) {
                if (token.isEmpty() || !Arrays.asList(part.split("\\|")).contains(token)) {
                    return bad(1, i);
                }
                choices.add(token);
            } else if (!part.equals(token)) {
                return bad(1, i);
            }
            i++;
        }
        take(head, numbers, choices);
        return i;
    }

    private int bad(int what, int token) {
        fault = what;
        return -1 - token;
    }

    private static String trim(String digits) {
        return digits.replaceFirst("^0+(?=.)", "");
    }

    private static int numberFault(String token, int least, int most) {
        if (!token.matches("[0-9]+")) {
            return 1;
        }
        String digits = trim(token);
        return digits.length() > 6 || Integer.parseInt(digits) < least || Integer.parseInt(digits) > most ? 2 : 0;
    }

    private int numberFault(char sort, String token, List<Integer> ahead) {
        switch (sort) {
            case 'P': return numberFault(token, 2, 12);
            case 'M': return numberFault(token, 1, 60);
            case 'T': return numberFault(token, 0, 60);
            case 'R': return numberFault(token, 0, rings.size() - 1);
            case 'S': return numberFault(token, 0, places - 1);
            case 'G': return numberFault(token, 0, 5);
            case 'Q': return numberFault(token, 0, 20);
            case 'L': return numberFault(token, 0, 99);
            case 'C': return numberFault(token, 0, 999);
            case 'Y': return numberFault(token, 1, 9);
            case 'F': return numberFault(token, 0, minutes - 1);
            case 'U': return numberFault(token, ahead.get(1), minutes - 1);
            case 'B': {
                int f = numberFault(token, 0, buyers.size() - 1);
                return f == 0 && wants.get(Integer.parseInt(trim(token))).size() == 3 ? 3 : f;
            }
            default: {
                int f = numberFault(token, 0, 5);
                if (f == 0) {
                    int good = Integer.parseInt(trim(token));
                    return wants.get(ahead.get(0)).stream().anyMatch(w -> w[0] == good) ? 2 : 0;
                }
                return f;
            }
        }
    }

    private void take(String head, List<Integer> n, List<String> c) {
        switch (head) {
            case "market": places = n.get(0); minutes = n.get(1); break;
            case "ring": rings.add(new int[] {n.get(0), c.get(0).equals("east") ? 1 : -1}); break;
            case "stall":
                stalls.add(new int[] {n.get(0), n.get(1), n.get(2), n.get(3), n.get(4),
                    Arrays.asList("fixed", "falls", "learns").indexOf(c.get(0)), n.get(5)});
                break;
            case "buyer":
                buyers.add(new int[] {n.get(0), n.get(1), Arrays.asList("eager", "thrifty", "slow").indexOf(c.get(0))});
                wants.add(new ArrayList<>());
                break;
            case "wants": wants.get(n.get(0)).add(new int[] {n.get(1), n.get(2), n.get(3)}); break;
            default: stuck.add(new int[] {n.get(0), n.get(1), n.get(2)});
        }
        lines++;
    }

    // ---- rings

    boolean isStuck(int ring, int minute) {
        for (int[] s : stuck) {
            if (s[0] == ring && s[1] <= minute && minute <= s[2]) {
                return true;
            }
        }
        return false;
    }

    /** How often a ring has turned when a minute has begun: of the minutes free so far, this one aside. */
    int turned(int ring, int minute) {
        int free = -1;
        for (int m = 0; m <= minute; m++) {
            free += isStuck(ring, m) ? 0 : 1;
        }
        int turns = rings.get(ring)[0];
        return turns == 0 || free < 0 ? 0 : free / turns;
    }

    int at(int stall, int minute) {
        int[] s = stalls.get(stall);
        return Math.floorMod(s[1] + rings.get(s[0])[1] * turned(s[0], minute), places);
    }

    int quiet(int stall, int minute) {
        int[] s = stalls.get(stall);
        return s[5] == 1 ? Math.max(0, s[4] - s[6] * turned(s[0], minute)) : s[4];
    }

    int again() {
        for (int n = 1; n <= 3600; n++) {
            int all = n;
            if (rings.stream().allMatch(r -> r[0] == 0 || all % (r[0] * places) == 0)) {
                return n;
            }
        }
        return -1;
    }

    // ---- the hour

    Model play() {
        int[] price = stalls.stream().mapToInt(s -> s[4]).toArray();
        int[] stock = stalls.stream().mapToInt(s -> s[3]).toArray();
        int[] purse = buyers.stream().mapToInt(b -> b[1]).toArray();
        Map<String, Integer> lack = new HashMap<>();
        lacks = new int[buyers.size()];
        doneIn = new int[buyers.size()];
        for (int b = 0; b < buyers.size(); b++) {
            for (int[] w : wants.get(b)) {
                lack.put(b + "/" + w[0], w[1]);
                lacks[b] += w[1];
            }
            doneIn[b] = lacks[b] == 0 ? 0 : -1;
        }
        asked = new int[stalls.size()][minutes];
        has = new int[stalls.size()][minutes];
        coins = new int[buyers.size()][minutes];
        sales.clear();
        int[][] where = new int[stalls.size()][minutes];
        for (int s = 0; s < stalls.size(); s++) {
            for (int m = 0; m < minutes; m++) {
                where[s][m] = at(s, m);
            }
        }
        for (int m = 0; m < minutes; m++) {
            int minute = m;
            List<int[]> meetings = new ArrayList<>();
            for (int s = 0; s < stalls.size(); s++) {
                if (stalls.get(s)[5] == 1) {
                    price[s] = quiet(s, m);
                }
                asked[s][m] = price[s];
                for (int b = 0; b < buyers.size(); b++) {
                    if (where[s][m] == buyers.get(b)[0]) {
                        meetings.add(new int[] {where[s][m], s, b});
                    }
                }
            }
            Collections.sort(meetings, (x, y) -> Arrays.compare(x, y));
            boolean[] tooDear = new boolean[stalls.size()];
            for (int[] meeting : meetings) {
                int s = meeting[1];
                int b = meeting[2];
                int good = stalls.get(s)[2];
                int open = lack.getOrDefault(b + "/" + good, 0);
                if (open == 0 || stock[s] == 0) {
                    continue;
                }
                int limit = wants.get(b).stream().filter(w -> w[0] == good).findFirst().get()[2];
                tooDear[s] |= price[s] > limit || price[s] > purse[b];
                if (price[s] > purse[b] || !would(b, price[s], limit, minute)) {
                    continue;
                }
                lack.put(b + "/" + good, open - 1);
                stock[s]--;
                purse[b] -= price[s];
                lacks[b]--;
                doneIn[b] = lacks[b] == 0 ? m : -1;
                sales.add(new int[] {m, s, b, price[s]});
            }
            for (int s = 0; s < stalls.size(); s++) {
                int stall = s;
                boolean sold = sales.stream().anyMatch(x -> x[0] == minute && x[1] == stall);
                if (stalls.get(s)[5] == 2 && sold) {
                    price[s] = Math.min(99, price[s] + stalls.get(s)[6]);
                } else if (stalls.get(s)[5] == 2 && stock[s] > 0 && tooDear[s]) {
                    price[s] = Math.max(0, price[s] - stalls.get(s)[6]);
                }
                has[s][m] = stock[s];
            }
            for (int b = 0; b < buyers.size(); b++) {
                coins[b][m] = purse[b];
            }
        }
        return this;
    }

    private boolean would(int b, int asks, int limit, int minute) {
        if (asks > limit) {
            return false;
        }
        int habit = buyers.get(b)[2];
        if (habit == 1 && minute * 2 < minutes) {
            return asks <= limit / 2;
        }
        return habit != 2 || sales.stream().noneMatch(x -> x[2] == b && (x[0] == minute - 1 || x[0] == minute - 2));
    }

    int sum(int column, int which, int of) {
        return sales.stream().filter(x -> x[column] == which).mapToInt(x -> of < 0 ? 1 : x[of]).sum();
    }

    int busiest() {
        int found = -1;
        for (int m = 0; m < minutes; m++) {
            if (sum(0, m, -1) > (found < 0 ? 0 : sum(0, found, -1))) {
                found = m;
            }
        }
        return found;
    }

    // ---- a buyer alone

    /** Of each number of pieces the least coins; by the wants apart, and of each by its stalls apart. */
    int[] leastCosts(int b) {
        int[] all = {0};
        for (int[] w : wants.get(b)) {
            int[] own = {0};
            for (int s = 0; s < stalls.size(); s++) {
                if (stalls.get(s)[2] != w[0]) {
                    continue;
                }
                List<Integer> prices = new ArrayList<>();
                for (int m = 0; m < minutes; m++) {
                    if (at(s, m) == buyers.get(b)[0] && quiet(s, m) <= w[2]) {
                        prices.add(quiet(s, m));
                    }
                }
                Collections.sort(prices);
                int n = Math.min(prices.size(), stalls.get(s)[3]);
                int[] cost = new int[n + 1];
                for (int i = 0; i < n; i++) {
                    cost[i + 1] = cost[i] + prices.get(i);
                }
                own = both(own, cost, w[1]);
            }
            all = both(all, own, 27);
        }
        return all;
    }

    private static int[] both(int[] a, int[] b, int most) {
        int n = Math.min(most, a.length + b.length - 2);
        int[] sum = new int[n + 1];
        Arrays.fill(sum, INF);
        for (int i = 0; i < a.length; i++) {
            for (int j = 0; j < b.length && i + j <= n; j++) {
                sum[i + j] = Math.min(sum[i + j], a[i] + b[j]);
            }
        }
        return sum;
    }

    int best(int b) {
        int[] costs = leastCosts(b);
        int n = 0;
        for (int k = 0; k < costs.length; k++) {
            n = costs[k] <= buyers.get(b)[1] ? k : n;
        }
        return n;
    }

    int cost(int b) {
        return leastCosts(b)[best(b)];
    }

    int needs(int b) {
        int wanted = wants.get(b).stream().mapToInt(w -> w[1]).sum();
        int[] costs = leastCosts(b);
        return costs.length > wanted ? costs[wanted] : -1;
    }

    int[] choice(int b) {
        List<int[]> offers = new ArrayList<>();
        for (int[] w : wants.get(b)) {
            for (int s = 0; s < stalls.size(); s++) {
                for (int m = 0; m < minutes; m++) {
                    if (stalls.get(s)[2] == w[0] && at(s, m) == buyers.get(b)[0] && quiet(s, m) <= w[2]) {
                        offers.add(new int[] {quiet(s, m), m, s});
                    }
                }
            }
        }
        Collections.sort(offers, (x, y) -> Arrays.compare(x, y));
        int[] ofStall = stalls.stream().mapToInt(s -> s[3]).toArray();
        int[] ofGood = new int[6];
        wants.get(b).forEach(w -> ofGood[w[0]] = w[1]);
        int purse = buyers.get(b)[1];
        int[] inMinute = new int[minutes];
        for (int[] offer : offers) {
            int good = stalls.get(offer[2])[2];
            if (ofStall[offer[2]] > 0 && ofGood[good] > 0 && offer[0] <= purse) {
                ofStall[offer[2]]--;
                ofGood[good]--;
                purse -= offer[0];
                inMinute[offer[1]]++;
            }
        }
        return inMinute;
    }

    // ---- a pear

    /** The minute and by how many stalls: the least minute of each place by one stall more, wave by wave. */
    int[] send(int from, int to, int minute) {
        int[] early = new int[places];
        Arrays.fill(early, INF);
        early[from] = minute;
        int[] found = {-1, -1};
        for (int k = 1; k <= stalls.size() + 1; k++) {
            int[] later = early.clone();
            for (int p = 0; p < places; p++) {
                int at = p;
                if (early[p] == INF || p != from && buyers.stream().noneMatch(b -> b[0] == at)) {
                    continue;
                }
                for (int s = 0; s < stalls.size(); s++) {
                    int laid = early[p];
                    while (laid < minutes && at(s, laid) != p) {
                        laid++;
                    }
                    for (int m = laid + 1; m < minutes; m++) {
                        later[at(s, m)] = Math.min(later[at(s, m)], m);
                    }
                }
            }
            early = later;
            if (early[to] < INF && (found[0] < 0 || early[to] < found[0])) {
                found = new int[] {early[to], k};
            }
        }
        return found;
    }

    // ---- trials

    Model drawn(int seed, int odds) {
        Model m = copy();
        long x = seed;
        for (int minute = 0; minute < minutes; minute++) {
            for (int r = 0; r < rings.size(); r++) {
                x = Math.floorMod(1103515245L * x + 12345L, 1L << 31);
                if ((x >> 16) % 100 < odds) {
                    m.stuck.add(new int[] {r, minute, minute});
                }
            }
        }
        return m.play();
    }

    int salesIfStuck(int ring, int minute) {
        Model m = copy();
        m.stuck.add(new int[] {ring, minute, minutes - 1});
        return m.play().sales.size();
    }

    int[] swap() {
        int most = copy().play().sales.size();
        int pair = -1;
        for (int i = 0; i < buyers.size(); i++) {
            for (int j = i + 1; j < buyers.size(); j++) {
                Model m = copy();
                m.buyers.get(i)[0] = buyers.get(j)[0];
                m.buyers.get(j)[0] = buyers.get(i)[0];
                int sales = m.play().sales.size();
                if (sales > most) {
                    most = sales;
                    pair = 10 * i + j;
                }
            }
        }
        return new int[] {most, pair};
    }

    int wise(int stall) {
        int most = -1;
        int wisest = -1;
        for (int price = 0; price < 100; price++) {
            Model m = copy();
            m.stalls.get(stall)[4] = price;
            int taken = m.play().sum(1, stall, 3);
            if (taken > most) {
                most = taken;
                wisest = price;
            }
        }
        return wisest;
    }

    // ---- rows

    /** What is missing at each stall, held against the row from its end on. */
    int theft(long[] left, int what) {
        if (left.length != stalls.size()) {
            return -7;
        }
        if (Arrays.stream(left).anyMatch(n -> n < 0 || n > 20)) {
            return -2;
        }
        int[] answers = {0, -1, 0};
        for (int s = left.length - 1; s >= 0; s--) {
            long should = has[s][minutes - 1];
            if (left[s] < should) {
                answers[0]++;
                answers[1] = s;
                answers[2] += (int) (should - left[s]);
            }
        }
        return answers[what];
    }
}
