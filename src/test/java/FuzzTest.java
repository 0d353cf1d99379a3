import java.util.Arrays;
import java.util.Random;

/** Random markets: every call's answer is that of the model. */
public final class FuzzTest {
    private static final Due DUE = new Due("FuzzTest");

    public static void main(String[] args) {
        for (int seed = 0; seed < 300; seed++) {
            wholeMarket(new Random(seed), seed);
        }
        spoiltTexts();
        DUE.finish();
    }

    private static void due(int seed, String call, long got, long want) {
        DUE.due("market " + seed + ": " + call, got, want);
    }

    private static void spoiltTexts() {
        Random random = new Random(77);
        Texts texts = new Texts(random);
        int faults = 0;
        for (int n = 0; n < 6000; n++) {
            String text = texts.spoilt();
            TurningMarket x = new TurningMarket();
            Model model = Model.read(text);
            String call = "market() of <" + text + ">";
            DUE.due(call, Due.load(x, text), model.fault != 0 ? -4 : model.lines);
            DUE.due("fault(0) behind " + call, x.fault(0), model.fault);
            DUE.due("fault(1) behind " + call, x.fault(1), model.faultPlace);
            DUE.due("count(5) behind " + call, x.count(5), model.lines);
            DUE.due("count(6) behind " + call, x.count(6), 0);
            faults += model.fault == 0 ? 0 : 1;
        }
        DUE.due("enough faults", faults > 3000 ? 1 : 0, 1);
    }

    private static void wholeMarket(Random random, int seed) {
        String text = new Texts(random).market();
        TurningMarket x = new TurningMarket();
        Model m = Model.read(text);
        due(seed, "market()", Due.load(x, text), m.lines);
        checkTold(x, m, seed);
        checkAll(x, m, seed);
        x.keep(seed % 3);
        Model old = m.copy();
        change(x, m, random, seed);
        checkAll(x, m, seed);
        due(seed, "back", x.back(seed % 3), 0);
        checkAll(x, old, seed);
    }

    private static void change(TurningMarket x, Model m, Random random, int seed) {
        for (int b = 0; b < m.buyers.size(); b++) {
            int place = random.nextInt(m.places);
            due(seed, "moves", x.moves(b, place), m.buyers.get(b)[0]);
            m.buyers.get(b)[0] = place;
        }
        for (int s = 0; s < m.stalls.size(); s++) {
            int price = random.nextInt(100);
            due(seed, "offer", x.offer(s, price), m.stalls.get(s)[4]);
            m.stalls.get(s)[4] = price;
        }
        for (int r = 0; r < m.rings.size(); r++) {
            int turns = random.nextInt(10);
            due(seed, "turn", x.turn(r, turns), m.rings.get(r)[0]);
            m.rings.get(r)[0] = turns;
        }
    }

    private static void checkTold(TurningMarket x, Model m, int seed) {
        int[] counts = {m.places, m.minutes, m.rings.size(), m.stalls.size(), m.buyers.size(), m.lines, 0};
        for (int what = 0; what < counts.length; what++) {
            due(seed, "count(" + what + ")", x.count(what), counts[what]);
        }
        int stuck = 0;
        for (int r = 0; r < m.rings.size(); r++) {
            for (int minute = 0; minute < m.minutes; minute++) {
                stuck += m.isStuck(r, minute) ? 1 : 0;
            }
        }
        due(seed, "count(7)", x.count(7), stuck);
        for (int s = 0; s < 9; s++) {
            for (int what = -1; what < 8; what++) {
                due(seed, "stall", x.stall(s, what), s < m.stalls.size() && what >= 0 && what < 7 ? m.stalls.get(s)[what] : -2);
            }
        }
        for (int b = 0; b < 7; b++) {
            boolean isThere = b < m.buyers.size();
            for (int what = -1; what < 5; what++) {
                int told = !isThere || what < 0 || what > 3 ? -2 : what == 3 ? m.wants.get(b).size() : m.buyers.get(b)[what];
                due(seed, "buyer", x.buyer(b, what), told);
            }
            for (int i = -1; i < 4; i++) {
                boolean isWant = isThere && i >= 0 && i < m.wants.get(b).size();
                for (int what = -1; what < 4; what++) {
                    due(seed, "want", x.want(b, i, what), isWant && what >= 0 && what < 3 ? m.wants.get(b).get(i)[what] : -2);
                }
            }
        }
    }

    private static void checkAll(TurningMarket x, Model m, int seed) {
        m.play();
        checkRings(x, m, seed);
        checkStalls(x, m, seed);
        checkBuyers(x, m, seed);
        checkSales(x, m, seed);
        checkAlone(x, m, seed);
        checkPears(x, m, seed);
        checkTrials(x, m, seed);
        checkRows(x, m, seed);
        // the trials leave the hour as it was
        checkSales(x, m, seed);
        checkStalls(x, m, seed);
    }

    private static void checkRings(TurningMarket x, Model m, int seed) {
        due(seed, "again", x.again(), m.again());
        for (int minute = 0; minute < m.minutes; minute += 1 + seed % 3) {
            for (int p = 0; p < m.places; p++) {
                for (int s = 0; s < m.stalls.size(); s++) {
                    int comes = -1;
                    for (int t = m.minutes - 1; t >= minute; t--) {
                        comes = m.at(s, t) == p ? t : comes;
                    }
                    due(seed, "comes", x.comes(s, p, minute), comes);
                }
                for (int r = 0; r < m.rings.size(); r++) {
                    int there = -1;
                    for (int s = m.stalls.size() - 1; s >= 0; s--) {
                        there = m.stalls.get(s)[0] == r && m.at(s, minute) == p ? s : there;
                    }
                    due(seed, "there", x.there(r, p, minute), there);
                }
            }
            for (int s = 0; s < m.stalls.size(); s++) {
                due(seed, "at", x.at(s, minute), m.at(s, minute));
                int to = Math.min(m.minutes - 1, minute + 3);
                int bits = 0;
                for (int t = minute; t <= to; t++) {
                    for (int b = 0; b < m.buyers.size(); b++) {
                        bits |= m.buyers.get(b)[0] == m.at(s, t) ? 1 << b : 0;
                    }
                }
                due(seed, "passed", x.passed(s, minute, to), bits);
            }
        }
        for (int s = 0; s < m.stalls.size(); s++) {
            for (int o = 0; o < m.stalls.size(); o++) {
                int often = 0;
                int face = -1;
                int from = m.minutes / 2;
                for (int t = m.minutes - 1; t >= 0; t--) {
                    often += m.at(s, t) == m.at(o, t) ? 1 : 0;
                    face = t >= from && m.at(s, t) == m.at(o, t) ? t : face;
                }
                due(seed, "often", x.often(s, o), s == o ? -2 : often);
                due(seed, "face", x.face(s, o, from), s == o ? -2 : face);
            }
        }
    }

    private static void checkStalls(TurningMarket x, Model m, int seed) {
        for (int s = 0; s < m.stalls.size(); s++) {
            for (int minute = 0; minute < m.minutes; minute++) {
                due(seed, "asks(" + s + ", " + minute + ")", x.asks(s, minute), m.asked[s][minute]);
                due(seed, "has(" + s + ", " + minute + ")", x.has(s, minute), m.has[s][minute]);
            }
            int stall = s;
            due(seed, "sold 0", x.sold(s, 0), m.sum(1, s, -1));
            due(seed, "sold 1", x.sold(s, 1), m.sum(1, s, 3));
            due(seed, "sold 2", x.sold(s, 2), m.sales.stream().filter(v -> v[1] == stall).mapToInt(v -> v[0]).min().orElse(-1));
        }
    }

    private static void checkBuyers(TurningMarket x, Model m, int seed) {
        for (int b = 0; b < m.buyers.size(); b++) {
            for (int minute = 0; minute < m.minutes; minute++) {
                due(seed, "coins(" + b + ", " + minute + ")", x.coins(b, minute), m.coins[b][minute]);
            }
            due(seed, "bought 0", x.bought(b, 0), m.sum(2, b, -1));
            due(seed, "bought 1", x.bought(b, 1), m.sum(2, b, 3));
            due(seed, "bought 2", x.bought(b, 2), m.lacks[b]);
            due(seed, "bought 3", x.bought(b, 3), m.doneIn[b]);
        }
    }

    private static void checkSales(TurningMarket x, Model m, int seed) {
        for (int i = 0; i <= m.sales.size(); i++) {
            for (int what = 0; what < 4; what++) {
                due(seed, "sale(" + i + ", " + what + ")", x.sale(i, what), i < m.sales.size() ? m.sales.get(i)[what] : -1);
            }
        }
        int lacks = 0;
        int done = 0;
        for (int b = 0; b < m.buyers.size(); b++) {
            lacks += m.lacks[b];
            done += m.lacks[b] == 0 ? 1 : 0;
        }
        due(seed, "all 0", x.all(0), m.sales.size());
        due(seed, "all 1", x.all(1), m.sales.stream().mapToInt(v -> v[3]).sum());
        due(seed, "all 2", x.all(2), lacks);
        due(seed, "all 3", x.all(3), done);
        due(seed, "all 4", x.all(4), m.busiest());
    }

    private static void checkAlone(TurningMarket x, Model m, int seed) {
        for (int b = 0; b < m.buyers.size(); b++) {
            due(seed, "best", x.best(b), m.best(b));
            due(seed, "cost", x.cost(b), m.cost(b));
            due(seed, "needs", x.needs(b), m.needs(b));
            int[] choice = m.choice(b);
            for (int minute = 0; minute < m.minutes; minute++) {
                due(seed, "choice", x.choice(b, minute), choice[minute]);
            }
        }
    }

    private static void checkPears(TurningMarket x, Model m, int seed) {
        for (int minute = 0; minute < m.minutes; minute += 1 + m.minutes / 5) {
            for (int from = 0; from < m.places; from++) {
                int round = minute;
                for (int to = 0; to < m.places; to++) {
                    if (to == from) {
                        continue;
                    }
                    int[] sent = m.send(from, to, minute);
                    due(seed, "send 0", x.send(from, to, minute, 0), sent[0]);
                    due(seed, "send 1", x.send(from, to, minute, 1), sent[1]);
                    int place = to;
                    if (m.buyers.stream().anyMatch(b -> b[0] == place)) {
                        round = round < 0 || sent[0] < 0 ? -1 : Math.max(round, sent[0]);
                    }
                }
                due(seed, "round", x.round(from, minute), round);
            }
        }
    }

    private static void checkTrials(TurningMarket x, Model m, int seed) {
        int[] swap = m.swap();
        due(seed, "swap 0", x.swap(0), swap[0]);
        due(seed, "swap 1", x.swap(1), swap[1]);
        if (!m.stalls.isEmpty()) {
            due(seed, "wise", x.wise(seed % m.stalls.size()), m.wise(seed % m.stalls.size()));
        }
        for (int minute = 0; minute < m.minutes; minute += 7) {
            int least = -1;
            int leastHarm = 0;
            for (int r = 0; r < m.rings.size(); r++) {
                int harm = m.sales.size() - m.salesIfStuck(r, minute);
                due(seed, "harm", x.harm(r, minute), harm);
                if (least < 0 || harm < leastHarm) {
                    least = r;
                    leastHarm = harm;
                }
            }
            due(seed, "least", x.least(minute), least);
        }
        int odds = seed * 7 % 101;
        due(seed, "drawn", x.drawn(seed * 6000007, odds), m.drawn(seed * 6000007, odds).sales.size());
        for (int b = 0; b < m.buyers.size(); b += 2) {
            int n = 1 + seed % 4;
            int times = 0;
            for (int i = 0; i < n; i++) {
                times += m.drawn(seed + i, odds).doneIn[b] >= 0 ? 1 : 0;
            }
            due(seed, "chance", x.chance(seed, n, odds, b), times);
        }
    }

    private static void checkRows(TurningMarket x, Model m, int seed) {
        Random random = new Random(seed);
        for (int n = 0; n < 12; n++) {
            int length = n % 3 == 0 ? random.nextInt(12) : m.stalls.size();
            long[] left = new long[length];
            for (int i = 0; i < length; i++) {
                int should = i < m.stalls.size() ? m.has[i][m.minutes - 1] : 0;
                left[i] = random.nextInt(30) == 0 ? random.nextInt(40) - 10 : Math.max(0, should - random.nextInt(3));
            }
            Due.fill(x, 2, random.nextInt(4), left);
            for (int what = 0; what < 3; what++) {
                due(seed, "theft(2, " + what + ") of " + Arrays.toString(left), x.theft(2, what), m.theft(left, what));
            }
        }
        for (int n = 0; n < 6; n++) {
            long[] paid = new long[random.nextInt(61)];
            int right = 0;
            boolean isSo = true;
            for (int i = 0; i < paid.length; i++) {
                boolean isSale = i < m.sales.size();
                paid[i] = isSale && random.nextInt(20) != 0 ? m.sales.get(i)[3] : random.nextInt(100);
                isSo &= isSale && paid[i] == m.sales.get(i)[3];
                right += isSo ? 1 : 0;
            }
            Due.fill(x, 3, random.nextInt(4), paid);
            due(seed, "judge(3) of " + Arrays.toString(paid), x.judge(3), right);
        }
    }
}
