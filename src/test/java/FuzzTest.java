import java.util.ArrayList;
import java.util.Arrays;
import java.util.List;
import java.util.Random;
import java.util.function.ToIntFunction;

/** Random markets: every call's answer is that of the model. */
public final class FuzzTest {
    private static final Due DUE = new Due("FuzzTest");

    public static void main(String[] args) {
        for (int seed = 0; seed < 300; seed++) {
            wholeMarket(new Random(seed), seed);
        }
        spoiltTexts();
        DUE.finish();
    }

    private static void due(int seed, String call, long got, long want) {
        DUE.due("market " + seed + ": " + call, got, want);
    }

    private static void spoiltTexts() {
        Random random = new Random(77);
        Texts texts = new Texts(random);
        int faults = 0;
        for (int n = 0; n < 6000; n++) {
            String text = texts.spoilt();
            TurningMarket x = new TurningMarket();
            Model model = Model.read(text);
            String call = "market() of <" + text + ">";
            DUE.due(call, Due.load(x, text), model.fault != 0 ? -4 : model.lines);
            DUE.due("fault(0) behind " + call, x.fault(0), model.fault);
            DUE.due("fault(1) behind " + call, x.fault(1), model.faultPlace);
            DUE.due("count(5) behind " + call, x.count(5), model.lines);
            DUE.due("count(6) behind " + call, x.count(6), 0);
            faults += model.fault == 0 ? 0 : 1;
        }
        DUE.due("enough faults", faults > 3000 ? 1 : 0, 1);
    }

    /** The market as it is told, with changes, and gone back to. */
    private static void wholeMarket(Random random, int seed) {
        String text = new Texts(random).market();
        Model m = Model.read(text);
        Model changed = m.copy();
        List<int[]> changes = changes(changed, random);
        int k = seed % 3;
        int load = Due.callsOfLoad(text);
        due(seed, "market()", Due.load(new TurningMarket(), text), m.lines);
        Supply told = new Supply(x -> {
            Due.load(x, text);
            return load;
        });
        checkTold(told, m, seed);
        checkAll(told, m, seed);
        checkAll(new Supply(x -> {
            Due.load(x, text);
            change(x, changes, seed);
            return load + changes.size();
        }), changed, seed);
        checkAll(new Supply(x -> {
            Due.load(x, text);
            x.keep(k);
            x.all(0);
            change(x, changes, seed);
            due(seed, "back", x.back(k), 0);
            return load + changes.size() + 3;
        }), m, seed);
    }

    /** Of each change the call (0 moves, 1 offer, 2 turn), its arguments and what was so ahead of it; the model is changed. */
    private static List<int[]> changes(Model m, Random random) {
        List<int[]> changes = new ArrayList<>();
        for (int b = 0; b < m.buyers.size(); b++) {
            int place = random.nextInt(m.places);
            changes.add(new int[] {0, b, place, m.buyers.get(b)[0]});
            m.buyers.get(b)[0] = place;
        }
        for (int s = 0; s < m.stalls.size(); s++) {
            int price = random.nextInt(100);
            changes.add(new int[] {1, s, price, m.stalls.get(s)[4]});
            m.stalls.get(s)[4] = price;
        }
        for (int r = 0; r < m.rings.size(); r++) {
            int turns = random.nextInt(10);
            changes.add(new int[] {2, r, turns, m.rings.get(r)[0]});
            m.rings.get(r)[0] = turns;
        }
        return changes;
    }

    private static void change(TurningMarket x, List<int[]> changes, int seed) {
        for (int[] c : changes) {
            switch (c[0]) {
                case 0: due(seed, "moves", x.moves(c[1], c[2]), c[3]); break;
                case 1: due(seed, "offer", x.offer(c[1], c[2]), c[3]); break;
                default: due(seed, "turn", x.turn(c[1], c[2]), c[3]);
            }
        }
    }

    private static void checkTold(Supply f, Model m, int seed) {
        int[] counts = {m.places, m.minutes, m.rings.size(), m.stalls.size(), m.buyers.size(), m.lines, 0};
        for (int what = 0; what < counts.length; what++) {
            due(seed, "count(" + what + ")", f.one().count(what), counts[what]);
        }
        int stuck = 0;
        for (int r = 0; r < m.rings.size(); r++) {
            for (int minute = 0; minute < m.minutes; minute++) {
                stuck += m.isStuck(r, minute) ? 1 : 0;
            }
        }
        due(seed, "count(7)", f.one().count(7), stuck);
        for (int s = 0; s < 9; s++) {
            for (int what = -1; what < 8; what++) {
                due(seed, "stall", f.one().stall(s, what), s < m.stalls.size() && what >= 0 && what < 7 ? m.stalls.get(s)[what] : -2);
            }
        }
        for (int b = 0; b < 7; b++) {
            boolean isThere = b < m.buyers.size();
            for (int what = -1; what < 5; what++) {
                int told = !isThere || what < 0 || what > 3 ? -2 : what == 3 ? m.wants.get(b).size() : m.buyers.get(b)[what];
                due(seed, "buyer", f.one().buyer(b, what), told);
            }
            for (int i = -1; i < 4; i++) {
                boolean isWant = isThere && i >= 0 && i < m.wants.get(b).size();
                for (int what = -1; what < 4; what++) {
                    due(seed, "want", f.one().want(b, i, what), isWant && what >= 0 && what < 3 ? m.wants.get(b).get(i)[what] : -2);
                }
            }
        }
    }

    private static void checkAll(Supply f, Model m, int seed) {
        m.play();
        checkRings(f, m, seed);
        checkStalls(f, m, seed);
        checkBuyers(f, m, seed);
        checkSales(f, m, seed);
        checkAlone(f, m, seed);
        checkPears(f, m, seed);
        checkTrials(f, m, seed);
        checkRows(f, m, seed);
    }

    private static void checkRings(Supply f, Model m, int seed) {
        due(seed, "again", f.one().again(), m.again());
        for (int minute = 0; minute < m.minutes; minute += 1 + seed % 3) {
            for (int p = 0; p < m.places; p++) {
                for (int s = 0; s < m.stalls.size(); s++) {
                    int comes = -1;
                    for (int t = m.minutes - 1; t >= minute; t--) {
                        comes = m.at(s, t) == p ? t : comes;
                    }
                    due(seed, "comes", f.one().comes(s, p, minute), comes);
                }
                for (int r = 0; r < m.rings.size(); r++) {
                    int there = -1;
                    for (int s = m.stalls.size() - 1; s >= 0; s--) {
                        there = m.stalls.get(s)[0] == r && m.at(s, minute) == p ? s : there;
                    }
                    due(seed, "there", f.one().there(r, p, minute), there);
                }
            }
            for (int s = 0; s < m.stalls.size(); s++) {
                due(seed, "at", f.one().at(s, minute), m.at(s, minute));
                int to = Math.min(m.minutes - 1, minute + 3);
                int bits = 0;
                for (int t = minute; t <= to; t++) {
                    for (int b = 0; b < m.buyers.size(); b++) {
                        bits |= m.buyers.get(b)[0] == m.at(s, t) ? 1 << b : 0;
                    }
                }
                due(seed, "passed", f.one().passed(s, minute, to), bits);
            }
        }
        for (int s = 0; s < m.stalls.size(); s++) {
            for (int o = 0; o < m.stalls.size(); o++) {
                int often = 0;
                int face = -1;
                int from = m.minutes / 2;
                for (int t = m.minutes - 1; t >= 0; t--) {
                    often += m.at(s, t) == m.at(o, t) ? 1 : 0;
                    face = t >= from && m.at(s, t) == m.at(o, t) ? t : face;
                }
                due(seed, "often", f.one().often(s, o), s == o ? -2 : often);
                due(seed, "face", f.one().face(s, o, from), s == o ? -2 : face);
            }
        }
    }

    private static void checkStalls(Supply f, Model m, int seed) {
        for (int s = 0; s < m.stalls.size(); s++) {
            for (int minute = 0; minute < m.minutes; minute++) {
                due(seed, "asks(" + s + ", " + minute + ")", f.one().asks(s, minute), m.asked[s][minute]);
                due(seed, "has(" + s + ", " + minute + ")", f.one().has(s, minute), m.has[s][minute]);
            }
            int stall = s;
            due(seed, "sold 0", f.one().sold(s, 0), m.sum(1, s, -1));
            due(seed, "sold 1", f.one().sold(s, 1), m.sum(1, s, 3));
            due(seed, "sold 2", f.one().sold(s, 2), m.sales.stream().filter(v -> v[1] == stall).mapToInt(v -> v[0]).min().orElse(-1));
        }
    }

    private static void checkBuyers(Supply f, Model m, int seed) {
        for (int b = 0; b < m.buyers.size(); b++) {
            for (int minute = 0; minute < m.minutes; minute++) {
                due(seed, "coins(" + b + ", " + minute + ")", f.one().coins(b, minute), m.coins[b][minute]);
            }
            due(seed, "bought 0", f.one().bought(b, 0), m.sum(2, b, -1));
            due(seed, "bought 1", f.one().bought(b, 1), m.sum(2, b, 3));
            due(seed, "bought 2", f.one().bought(b, 2), m.lacks[b]);
            due(seed, "bought 3", f.one().bought(b, 3), m.doneIn[b]);
        }
    }

    private static void checkSales(Supply f, Model m, int seed) {
        for (int i = 0; i <= m.sales.size(); i++) {
            for (int what = 0; what < 4; what++) {
                due(seed, "sale(" + i + ", " + what + ")", f.one().sale(i, what), i < m.sales.size() ? m.sales.get(i)[what] : -1);
            }
        }
        int lacks = 0;
        int done = 0;
        for (int b = 0; b < m.buyers.size(); b++) {
            lacks += m.lacks[b];
            done += m.lacks[b] == 0 ? 1 : 0;
        }
        due(seed, "all 0", f.one().all(0), m.sales.size());
        due(seed, "all 1", f.one().all(1), m.sales.stream().mapToInt(v -> v[3]).sum());
        due(seed, "all 2", f.one().all(2), lacks);
        due(seed, "all 3", f.one().all(3), done);
        due(seed, "all 4", f.one().all(4), m.busiest());
    }

    private static void checkAlone(Supply f, Model m, int seed) {
        for (int b = 0; b < m.buyers.size(); b++) {
            due(seed, "best", f.one().best(b), m.best(b));
            due(seed, "cost", f.one().cost(b), m.cost(b));
            due(seed, "needs", f.one().needs(b), m.needs(b));
            int[] choice = m.choice(b);
            for (int minute = 0; minute < m.minutes; minute++) {
                due(seed, "choice", f.one().choice(b, minute), choice[minute]);
            }
        }
    }

    private static void checkPears(Supply f, Model m, int seed) {
        for (int minute = 0; minute < m.minutes; minute += 1 + m.minutes / 5) {
            for (int from = 0; from < m.places; from++) {
                int round = minute;
                for (int to = 0; to < m.places; to++) {
                    if (to == from) {
                        continue;
                    }
                    int[] sent = m.send(from, to, minute);
                    due(seed, "send 0", f.one().send(from, to, minute, 0), sent[0]);
                    due(seed, "send 1", f.one().send(from, to, minute, 1), sent[1]);
                    int place = to;
                    if (m.buyers.stream().anyMatch(b -> b[0] == place)) {
                        round = round < 0 || sent[0] < 0 ? -1 : Math.max(round, sent[0]);
                    }
                }
                due(seed, "round", f.one().round(from, minute), round);
            }
        }
    }

    private static void checkTrials(Supply f, Model m, int seed) {
        int[] swap = m.swap();
        tried(seed, "swap 0", f, m, x -> x.swap(0), swap[0]);
        tried(seed, "swap 1", f, m, x -> x.swap(1), swap[1]);
        if (!m.stalls.isEmpty()) {
            int stall = seed % m.stalls.size();
            tried(seed, "wise", f, m, x -> x.wise(stall), m.wise(stall));
        }
        for (int minute = 0; minute < m.minutes; minute += 7) {
            int from = minute;
            int least = -1;
            int leastHarm = 0;
            for (int r = 0; r < m.rings.size(); r++) {
                int ring = r;
                int harm = m.sales.size() - m.salesIfStuck(r, minute);
                tried(seed, "harm", f, m, x -> x.harm(ring, from), harm);
                if (least < 0 || harm < leastHarm) {
                    least = r;
                    leastHarm = harm;
                }
            }
            tried(seed, "least", f, m, x -> x.least(from), least);
        }
        int odds = seed * 7 % 101;
        tried(seed, "drawn", f, m, x -> x.drawn(seed * 6000007, odds), m.drawn(seed * 6000007, odds).sales.size());
        for (int b = 0; b < m.buyers.size(); b += 2) {
            int buyer = b;
            int n = 1 + seed % 4;
            int times = 0;
            for (int i = 0; i < n; i++) {
                times += m.drawn(seed + i, odds).doneIn[b] >= 0 ? 1 : 0;
            }
            tried(seed, "chance", f, m, x -> x.chance(seed, n, odds, buyer), times);
        }
    }

    /** A trial's answer, and that it leaves the hour as it was. */
    private static void tried(int seed, String call, Supply f, Model m, ToIntFunction<TurningMarket> trial, int answer) {
        TurningMarket x = f.room(4);
        due(seed, call, trial.applyAsInt(x), answer);
        due(seed, "all 0 behind " + call, x.all(0), m.sales.size());
        due(seed, "all 1 behind " + call, x.all(1), m.sales.stream().mapToInt(v -> v[3]).sum());
        if (!m.stalls.isEmpty()) {
            due(seed, "at behind " + call, x.at(0, m.minutes - 1), m.at(0, m.minutes - 1));
        }
    }

    private static void checkRows(Supply f, Model m, int seed) {
        Random random = new Random(seed);
        for (int n = 0; n < 12; n++) {
            int length = n % 3 == 0 ? random.nextInt(12) : m.stalls.size();
            long[] left = new long[length];
            for (int i = 0; i < length; i++) {
                int should = i < m.stalls.size() ? m.has[i][m.minutes - 1] : 0;
                left[i] = random.nextInt(30) == 0 ? random.nextInt(40) - 10 : Math.max(0, should - random.nextInt(3));
            }
            TurningMarket x = f.room(1 + length + 3);
            Due.fill(x, 2, random.nextInt(4), left);
            for (int what = 0; what < 3; what++) {
                due(seed, "theft(2, " + what + ") of " + Arrays.toString(left), x.theft(2, what), m.theft(left, what));
            }
        }
        for (int n = 0; n < 6; n++) {
            long[] paid = new long[random.nextInt(61)];
            int right = 0;
            boolean isSo = true;
            for (int i = 0; i < paid.length; i++) {
                boolean isSale = i < m.sales.size();
                paid[i] = isSale && random.nextInt(20) != 0 ? m.sales.get(i)[3] : random.nextInt(100);
                isSo &= isSale && paid[i] == m.sales.get(i)[3];
                right += isSo ? 1 : 0;
            }
            TurningMarket x = f.room(1 + paid.length + 1);
            Due.fill(x, 3, random.nextInt(4), paid);
            due(seed, "judge(3) of " + Arrays.toString(paid), x.judge(3), right);
        }
    }
}
