import java.util.ArrayList;
import java.util.Arrays;
import java.util.List;
import java.util.Random;

/**
 * Long runs of calls, made by a seeded source, on FootBridges and on a model that follows the
 * document word by word, without any short cut. Every answer of the two must be the same.
 */
public final class AgainstPlainModel {
    private static final int RUNS = 700;
    private static final int CALLS = 512;
    private static int wrong = 0;
    private static long asked = 0;
    private static final long[] ordinary = new long[36];

    public static void main(String[] args) {
        for (int run = 0; run < RUNS && wrong < 20; run++) {
            new Run(run).go();
        }
        for (int promise = 2; promise <= 35; promise++) {
            if (ordinary[promise] < 50) {
                wrong++;
                System.out.println("promise " + promise + " had only " + ordinary[promise] + " answers that are no refusal");
            }
        }
        System.out.println(asked + " calls asked, " + wrong + " wrong");
        if (wrong != 0) {
            System.exit(1);
        }
    }

    /** One object and one model, and the calls made on both. */
    private static final class Run {
        final int number;
        final Random random;
        final FootBridges real = new FootBridges();
        final Model model = new Model();
        /** Which families of calls this run likes, so that some runs stay long with one. */
        final int family;
        final int wildness;
        int calls;

        Run(int number) {
            this.number = number;
            this.random = new Random(7919L * number + 1);
            this.family = number % 6;
            this.wildness = number % 7 == 0 ? 4 : 30;
        }

        void go() {
            if (family == 2) {
                needDampers();
            }
            while (calls < CALLS - 4 && wrong < 20) {
                int pick = family == 5 || random.nextInt(4) == 0 ? random.nextInt(5) : family;
                switch (pick) {
                    case 0: tones(); break;
                    case 1: sway(); break;
                    case 2: dampers(); break;
                    case 3: people(); break;
                    default: tests(); break;
                }
            }
        }

        void same(int promise, String call, int got, int want) {
            asked++;
            calls++;
            if (want >= 0 || want == -9) {
                ordinary[promise]++;
            }
            if (got != want) {
                wrong++;
                System.out.println("run " + number + ": " + call + " answered " + got + ", due is " + want);
            }
        }

        /** Mostly within the ends, at times just at them, just beyond, or far off. */
        int from(int least, int most) {
            int kind = random.nextInt(wildness);
            switch (kind) {
                case 0: return least - 1;
                case 1: return most + 1;
                case 2: return least;
                case 3:
                    int far = random.nextInt(6);
                    return far == 0 ? Integer.MIN_VALUE : far == 1 ? Integer.MAX_VALUE : most;
                default: return least + random.nextInt(most - least + 1);
            }
        }

        int low(int least, int most, int usual) {
            return random.nextInt(3) == 0 ? from(least, most) : from(least, Math.min(most, usual));
        }

        /** Walkers in step at all sways, so that nothing settles without dampers. */
        void needDampers() {
            int n = 40 + random.nextInt(100);
            same(8, "sort(0, 60, 0, 9999)", real.sort(0, 60, 0, 9999), model.sort(0, 60, 0, 9999));
            same(9, "crowd(0, " + n + ")", real.crowd(0, n), model.crowd(0, n));
        }

        void tones() {
            int a;
            int b;
            switch (random.nextInt(12)) {
                case 0:
                    a = from(1, 5);
                    same(2, "span(" + a + ")", real.span(a), model.span(a));
                    break;
                case 1:
                case 2:
                    a = from(0, model.weights.length - 1);
                    b = low(1, 9, 3);
                    same(3, "weight(" + a + ", " + b + ")", real.weight(a, b), model.weight(a, b));
                    break;
                case 3:
                case 4:
                case 5:
                    a = from(0, model.springs.length - 1);
                    b = low(0, 99, 5);
                    same(4, "spring(" + a + ", " + b + ")", real.spring(a, b), model.spring(a, b));
                    break;
                case 6:
                case 7:
                    a = low(0, 400, 12);
                    same(5, "below(" + a + ")", real.below(a), model.below(a));
                    break;
                case 8:
                case 9:
                    a = from(0, model.weights.length - 1);
                    same(6, "tone(" + a + ")", real.tone(a), model.tone(a));
                    break;
                default:
                    a = low(0, 400, 12);
                    same(7, "isTone(" + a + ")", real.isTone(a), model.isTone(a));
                    break;
            }
            same(35, "count(0)", real.count(0), model.count(0));
        }

        void sway() {
            int a;
            int b;
            switch (random.nextInt(13)) {
                case 0:
                case 1:
                    changeSort();
                    break;
                case 2:
                case 3:
                    a = from(0, 3);
                    b = low(0, 999, 60);
                    same(9, "crowd(" + a + ", " + b + ")", real.crowd(a, b), model.crowd(a, b));
                    break;
                case 4:
                    changeRule();
                    break;
                case 5:
                    a = swayNearEdge();
                    same(11, "net(" + a + ")", real.net(a), model.net(a));
                    break;
                case 6:
                    a = swayNearEdge();
                    b = low(0, 10000, 40);
                    same(12, "beats(" + a + ", " + b + ")", real.beats(a, b), model.beats(a, b));
                    break;
                case 7:
                case 8:
                    a = swayNearEdge();
                    same(13, "settles(" + a + ")", real.settles(a), model.settles(a));
                    break;
                case 9:
                case 10:
                    a = swayNearEdge();
                    b = from(0, 3);
                    same(14, "ring(" + a + ", " + b + ")", real.ring(a, b), model.ring(a, b));
                    break;
                case 11:
                    a = from(0, 3);
                    if (random.nextInt(3) == 0) {
                        same(15, "tooMany(" + a + ")", real.tooMany(a), model.tooMany(a));
                    }
                    break;
                default:
                    a = swayNearEdge();
                    same(16, "inStep(" + a + ")", real.inStep(a), model.inStep(a));
                    break;
            }
            same(35, "count(4)", real.count(4), model.count(4));
        }

        void changeSort() {
            int a = from(0, 3);
            int b = from(0, 99);
            int c = low(0, 9999, 300);
            int d = random.nextInt(3) == 0 ? from(0, 9999) : Math.min(9999, Math.max(-1, c) + random.nextInt(900));
            same(8, "sort(" + a + ", " + b + ", " + c + ", " + d + ")", real.sort(a, b, c, d), model.sort(a, b, c, d));
        }

        void changeRule() {
            int a = from(0, 3);
            int b = a == 0 ? low(1, 500, 30) : a == 1 ? low(1, 9999, 600) : a == 2 ? low(0, 999, 200) : low(0, 9999, 500);
            same(10, "rule(" + a + ", " + b + ")", real.rule(a, b), model.rule(a, b));
        }

        int swayNearEdge() {
            int sort = random.nextInt(4);
            switch (random.nextInt(4)) {
                case 0: return model.lock[sort] + random.nextInt(3) - 1;
                case 1: return model.stop[sort] + random.nextInt(3) - 1;
                default: return low(0, 9999, 1200);
            }
        }

        void dampers() {
            int a;
            int b;
            int c;
            switch (random.nextInt(9)) {
                case 0:
                    a = low(1, 500, 20);
                    b = low(0, 9999, 4);
                    c = low(0, 99, 40);
                    same(17, "damper(" + a + ", " + b + ", " + c + ")", real.damper(a, b, c), model.damper(a, b, c));
                    break;
                case 1:
                case 2:
                    a = from(0, Math.max(0, model.dampers.size() - 1));
                    boolean built = random.nextBoolean();
                    same(18, "build(" + a + ", " + built + ")", real.build(a, built), model.build(a, built));
                    break;
                case 3:
                    same(19, "cheapest()", real.cheapest(), model.cheapest());
                    break;
                case 4:
                    a = from(-1, 4);
                    same(20, "bought(" + a + ")", real.bought(a), model.bought(a));
                    break;
                case 5:
                    changeRule();
                    break;
                case 6:
                    needDampers();
                    break;
                case 7:
                    a = from(-1, 4);
                    same(20, "bought(" + a + ")", real.bought(a), model.bought(a));
                    break;
                default:
                    sway();
                    break;
            }
            same(35, "count(1)", real.count(1), model.count(1));
            same(35, "count(2)", real.count(2), model.count(2));
        }

        void people() {
            int a;
            int b;
            switch (random.nextInt(10)) {
                case 0:
                case 1:
                    a = from(0, 5);
                    int[] most = {8, 99, 99, 99, 999, 9};
                    int[] usual = {8, 12, 6, 9, 30, 9};
                    b = a < 0 || a > 5 ? from(0, 9) : low(a < 3 ? 1 : 0, most[a], usual[a]);
                    same(21, "way(" + a + ", " + b + ")", real.way(a, b), model.way(a, b));
                    break;
                case 2:
                case 3:
                case 4:
                    a = from(0, 59);
                    b = low(0, 99, 20);
                    same(22, "arrive(" + a + ", " + b + ")", real.arrive(a, b), model.arrive(a, b));
                    break;
                case 5:
                case 6:
                    a = from(1, 60);
                    b = from(0, 5);
                    same(23, "day(" + a + ", " + b + ")", real.day(a, b), model.day(a, b));
                    break;
                case 7:
                    a = from(1, 60);
                    b = from(0, model.way[0] - 1);
                    same(24, "on(" + a + ", " + b + ")", real.on(a, b), model.on(a, b));
                    break;
                case 8:
                    a = from(1, 60);
                    same(25, "bestMark(" + a + ")", real.bestMark(a), model.bestMark(a));
                    break;
                default:
                    if (random.nextBoolean()) {
                        changeRule();
                    } else {
                        changeSort();
                    }
                    break;
            }
            same(35, "count(5)", real.count(5), model.count(5));
        }

        void tests() {
            int a;
            switch (random.nextInt(13)) {
                case 0:
                case 1:
                    makeTest();
                    break;
                case 2:
                    a = from(0, Math.max(0, model.tests.size() - 1));
                    same(27, "forget(" + a + ")", real.forget(a), model.forget(a));
                    break;
                case 3:
                    same(28, "laws()", real.laws(), model.laws());
                    break;
                case 4:
                    a = from(0, Math.max(0, model.laws() - 1));
                    same(29, "law(" + a + ")", real.law(a), model.law(a));
                    break;
                case 5:
                    boolean push = random.nextBoolean();
                    boolean most = random.nextBoolean();
                    same(30, "among(" + push + ", " + most + ")", real.among(push, most), model.among(push, most));
                    break;
                case 6:
                case 7:
                    a = random.nextInt(8) == 0 ? from(-200, 5100) : 100 * from(0, 49) + from(1, 50);
                    same(31, "breaks(" + a + ")", real.breaks(a), model.breaks(a));
                    break;
                case 8:
                    a = low(0, 999, 200);
                    same(32, "sure(" + a + ")", real.sure(a), model.sure(a));
                    break;
                case 9:
                    if (random.nextInt(3) == 0) {
                        same(33, "safe()", real.safe(), model.safe());
                    }
                    break;
                case 10:
                    a = from(1, 30);
                    if (random.nextInt(3) == 0) {
                        same(34, "next(" + a + ")", real.next(a), model.next(a));
                    }
                    break;
                case 11:
                    changeRule();
                    break;
                default:
                    a = from(0, 5);
                    same(35, "count(" + a + ")", real.count(a), model.count(a));
                    break;
            }
            same(35, "count(3)", real.count(3), model.count(3));
        }

        /** Mostly readings that some one law would give, so that laws are left to fit. */
        void makeTest() {
            int n = from(0, 99);
            int sway = random.nextInt(4) == 0 ? low(0, 9999, 100) : from(500, 9999);
            int k = from(1, 30);
            int read = from(0, 9999);
            if (random.nextInt(8) != 0 && n >= 0 && n <= 99 && k >= 1 && k <= 30) {
                int law = 1000 + 10 * (number % 40);
                read = Math.min(9999, Math.max(0, sway));
                for (int i = 0; i < k; i++) {
                    read = Model.beat(read, n * (law / 100) / 100 - 1 - number % 30);
                }
            }
            int from = read - random.nextInt(60);
            int to = read + random.nextInt(60);
            if (random.nextInt(3) != 0) {
                from = Math.max(0, from);
                to = Math.min(9999, to);
            }
            String call = "test(" + n + ", " + sway + ", " + k + ", " + from + ", " + to + ")";
            same(26, call, real.test(n, sway, k, from, to), model.test(n, sway, k, from, to));
        }
    }

    /** The document, said again in the plainest way. */
    private static final class Model {
        int[] weights = {1};
        int[] springs = {1, 1};
        final int[] push = new int[4];
        final int[] lock = new int[4];
        final int[] stop = {9999, 9999, 9999, 9999};
        final int[] crowd = new int[4];
        final int[] rules = {10, 10, 100, 100};
        final List<int[]> dampers = new ArrayList<>();
        final int[] way = {4, 20, 10, 10, 999, 1};
        final int[] arrivals = new int[60];
        final List<int[]> tests = new ArrayList<>();
        List<Integer> fit = null;

        static boolean out(int v, int least, int most) {
            return v < least || v > most;
        }

        int span(int n) {
            if (out(n, 1, 5)) return -2;
            int was = weights.length;
            weights = new int[n];
            springs = new int[n + 1];
            Arrays.fill(weights, 1);
            Arrays.fill(springs, 1);
            return was;
        }

        int weight(int weight, int v) {
            if (out(weight, 0, weights.length - 1)) return -1;
            if (out(v, 1, 9)) return -2;
            int was = weights[weight];
            weights[weight] = v;
            return was;
        }

        int spring(int spring, int v) {
            if (out(spring, 0, weights.length)) return -1;
            boolean atGround = spring == 0 || spring == weights.length;
            if (out(v, atGround ? 0 : 1, 99)) return -2;
            int was = springs[spring];
            springs[spring] = v;
            return was;
        }

        /** The determinant of (springs less x times weights) as a polynomial of x, over all orders of columns. */
        long[] polynomial() {
            int n = weights.length;
            long[] all = new long[n + 1];
            orders(0, new int[n], new boolean[n], all);
            return all;
        }

        void orders(int row, int[] column, boolean[] used, long[] all) {
            int n = weights.length;
            if (row == n) {
                long[] product = {1};
                int turns = 0;
                for (int i = 0; i < n; i++) {
                    for (int j = 0; j < i; j++) {
                        if (column[j] > column[i]) turns++;
                    }
                    long at0 = i == column[i] ? springs[i] + springs[i + 1]
                            : column[i] == i - 1 ? -springs[i] : column[i] == i + 1 ? -springs[i + 1] : 0;
                    long at1 = i == column[i] ? -weights[i] : 0;
                    long[] longer = new long[product.length + 1];
                    for (int j = 0; j < product.length; j++) {
                        longer[j] += product[j] * at0;
                        longer[j + 1] += product[j] * at1;
                    }
                    product = longer;
                }
                for (int i = 0; i <= n; i++) {
                    all[i] += turns % 2 == 0 ? product[i] : -product[i];
                }
                return;
            }
            for (int c = 0; c < n; c++) {
                if (!used[c]) {
                    used[c] = true;
                    column[row] = c;
                    orders(row + 1, column, used, all);
                    used[c] = false;
                }
            }
        }

        /** {tones below t, tones that are t}: all roots are real, so Descartes' rule counts those above exactly. */
        int[] tonesAt(int t) {
            long[] p = polynomial();
            int n = weights.length;
            for (int i = 0; i < n; i++) {
                for (int j = n - 1; j >= i; j--) {
                    p[j] += t * p[j + 1];
                }
            }
            int equal = 0;
            while (p[equal] == 0) equal++;
            int above = 0;
            long last = 0;
            for (int i = 0; i <= n; i++) {
                if (p[i] == 0) continue;
                if (last != 0 && (last < 0) != (p[i] < 0)) above++;
                last = p[i];
            }
            return new int[] {n - above - equal, equal};
        }

        int below(int t) {
            return out(t, 0, 400) ? -2 : tonesAt(t)[0];
        }

        int isTone(int t) {
            return out(t, 0, 400) ? -2 : tonesAt(t)[1] > 0 ? 1 : 0;
        }

        int tone(int k) {
            if (out(k, 0, weights.length - 1)) return -1;
            int t = 1000;
            while (tonesAt(t)[0] > k) t--;
            return t;
        }

        int sort(int sort, int p, int l, int s) {
            if (out(sort, 0, 3)) return -1;
            if (out(p, 0, 99) || out(l, 0, 9999) || out(s, 0, 9999)) return -2;
            int was = push[sort];
            push[sort] = p;
            lock[sort] = l;
            stop[sort] = s;
            return was;
        }

        int crowd(int sort, int n) {
            if (out(sort, 0, 3)) return -1;
            if (out(n, 0, 999)) return -2;
            int was = crowd[sort];
            crowd[sort] = n;
            return was;
        }

        int rule(int what, int v) {
            if (out(what, 0, 3)) return -2;
            if (what == 0 && out(v, 1, 500)) return -2;
            if (what == 1 && out(v, 1, 9999)) return -2;
            if (what == 2 && out(v, 0, 999)) return -2;
            if (what == 3 && out(v, 0, 9999)) return -2;
            int was = rules[what];
            rules[what] = v;
            return was;
        }

        int damping() {
            int all = rules[0];
            for (int[] damper : dampers) {
                if (damper[3] == 1) all += damper[0];
            }
            return all;
        }

        static int netOf(int[] people, int[] push, int[] lock, int[] stop, int sway, int damping) {
            int all = 0;
            for (int i = 0; i < 4; i++) {
                if (lock[i] <= sway && sway <= stop[i]) all += people[i] * push[i];
            }
            return all / 100 - damping;
        }

        static int beat(int sway, int net) {
            int moved = sway + (int) Math.floor(sway * (double) net / 1000.0);
            return moved < 0 ? 0 : moved > 9999 ? 9999 : moved;
        }

        int step(int sway, int[] people, int damping) {
            return beat(sway, netOf(people, push, lock, stop, sway, damping));
        }

        int net(int sway) {
            return out(sway, 0, 9999) ? -2 : 100000 + netOf(crowd, push, lock, stop, sway, damping());
        }

        int beats(int sway, int n) {
            if (out(sway, 0, 9999) || out(n, 0, 10000)) return -2;
            int at = sway;
            for (int i = 0; i < n; i++) at = step(at, crowd, damping());
            return at;
        }

        /** The sways in order until one comes again; what follows the last is first in the ring. */
        List<Integer> path(int sway, int[] people, int damping) {
            List<Integer> path = new ArrayList<>();
            boolean[] seen = new boolean[10000];
            int at = sway;
            while (!seen[at]) {
                seen[at] = true;
                path.add(at);
                at = step(at, people, damping);
            }
            return path;
        }

        int settles(int sway) {
            if (out(sway, 0, 9999)) return -2;
            return path(sway, crowd, damping()).indexOf(0) < 0 ? -9 : path(sway, crowd, damping()).indexOf(0);
        }

        int ring(int sway, int what) {
            if (out(sway, 0, 9999) || out(what, 0, 3)) return -2;
            List<Integer> path = path(sway, crowd, damping());
            if (path.contains(0)) return -9;
            int first = path.indexOf(step(path.get(path.size() - 1), crowd, damping()));
            List<Integer> ring = path.subList(first, path.size());
            switch (what) {
                case 0: return java.util.Collections.min(ring);
                case 1: return java.util.Collections.max(ring);
                case 2: return ring.size();
                default: return first;
            }
        }

        boolean smallSettles(int[] people, int damping) {
            int at = rules[1];
            boolean[] seen = new boolean[10000];
            while (!seen[at]) {
                seen[at] = true;
                at = step(at, people, damping);
            }
            return at == 0;
        }

        int tooMany(int sort) {
            if (out(sort, 0, 3)) return -1;
            int[] people = crowd.clone();
            for (int n = 0; n <= 999; n++) {
                people[sort] = n;
                if (!smallSettles(people, damping())) return n;
            }
            return -9;
        }

        int inStep(int sway) {
            if (out(sway, 0, 9999)) return -2;
            int all = 0;
            for (int i = 0; i < 4; i++) {
                if (lock[i] <= sway && sway <= stop[i]) all += crowd[i];
            }
            return all;
        }

        int damper(int add, int price, int load) {
            if (out(add, 1, 500) || out(price, 0, 9999) || out(load, 0, 99)) return -2;
            if (dampers.size() == 10) return -4;
            dampers.add(new int[] {add, price, load, 0});
            return dampers.size() - 1;
        }

        int build(int damper, boolean built) {
            if (out(damper, 0, dampers.size() - 1)) return -1;
            int was = dampers.get(damper)[3];
            dampers.get(damper)[3] = built ? 1 : 0;
            return was;
        }

        /** The list of its numbers, or null. */
        List<Integer> cheapestSet() {
            List<Integer> best = null;
            int bestPrice = 0;
            for (int set = 0; set < 1 << dampers.size(); set++) {
                List<Integer> numbers = new ArrayList<>();
                int add = 0;
                int price = 0;
                int load = 0;
                for (int i = 0; i < dampers.size(); i++) {
                    if ((set >> i & 1) == 1) {
                        numbers.add(i);
                        add += dampers.get(i)[0];
                        price += dampers.get(i)[1];
                        load += dampers.get(i)[2];
                    }
                }
                if (load > rules[2]) continue;
                if (best != null && !ahead(price, numbers, bestPrice, best)) continue;
                if (!smallSettles(crowd, rules[0] + add)) continue;
                best = numbers;
                bestPrice = price;
            }
            return best;
        }

        static boolean ahead(int price, List<Integer> a, int otherPrice, List<Integer> b) {
            if (price != otherPrice) return price < otherPrice;
            if (a.size() != b.size()) return a.size() < b.size();
            for (int i = 0; i < a.size(); i++) {
                int order = a.get(i).compareTo(b.get(i));
                if (order != 0) return order < 0;
            }
            return false;
        }

        int cheapest() {
            List<Integer> set = cheapestSet();
            if (set == null) return -9;
            int price = 0;
            for (int i : set) price += dampers.get(i)[1];
            return price;
        }

        int bought(int i) {
            List<Integer> set = cheapestSet();
            return set == null || out(i, 0, set.size() - 1) ? -9 : set.get(i);
        }

        int way(int what, int v) {
            int[] least = {1, 1, 1, 0, 0, 0};
            int[] most = {8, 99, 99, 99, 999, 9};
            if (out(what, 0, 5) || out(v, least[what], most[what])) return -2;
            int was = way[what];
            way[what] = v;
            return was;
        }

        int arrive(int minute, int n) {
            if (out(minute, 0, 59) || out(n, 0, 99)) return -2;
            int was = arrivals[minute];
            arrivals[minute] = n;
            return was;
        }

        /** {over, on, queue, sway, greatest sway, most on, piece 0, piece 1, ..}. */
        int[] walk(int m, int mark) {
            int length = way[0];
            int[] pieces = new int[length];
            List<Integer> ends = new ArrayList<>();
            int over = 0;
            int queue = 0;
            int sway = rules[1];
            int greatest = -1;
            int mostOn = 0;
            for (int minute = 0; minute < m; minute++) {
                queue += arrivals[minute];
                for (int i = length - 1; i >= 0; i--) {
                    int going = Math.min(pieces[i], way[2]);
                    if (i == length - 1) {
                        over += going;
                    } else {
                        going = Math.min(going, way[1] - pieces[i + 1]);
                        pieces[i + 1] += going;
                    }
                    pieces[i] -= going;
                }
                int late = way[5];
                int knows = late == 0 ? Arrays.stream(pieces).sum() : minute - late < 0 ? 0 : ends.get(minute - late);
                if (knows < mark) {
                    int in = Math.min(queue, Math.min(way[3], way[1] - pieces[0]));
                    queue -= in;
                    pieces[0] += in;
                }
                int on = Arrays.stream(pieces).sum();
                ends.add(on);
                mostOn = Math.max(mostOn, on);
                sway = step(sway, new int[] {on, 0, 0, 0}, damping());
                greatest = Math.max(greatest, sway);
            }
            int[] all = new int[6 + length];
            int[] first = {over, Arrays.stream(pieces).sum(), queue, sway, greatest, mostOn};
            System.arraycopy(first, 0, all, 0, 6);
            System.arraycopy(pieces, 0, all, 6, length);
            return all;
        }

        int day(int m, int what) {
            return out(m, 1, 60) || out(what, 0, 5) ? -2 : walk(m, way[4])[what];
        }

        int on(int m, int piece) {
            if (out(m, 1, 60)) return -2;
            return out(piece, 0, way[0] - 1) ? -1 : walk(m, way[4])[6 + piece];
        }

        int bestMark(int m) {
            if (out(m, 1, 60)) return -2;
            int best = -9;
            int most = -1;
            for (int mark = 0; mark <= 200; mark++) {
                int[] day = walk(m, mark);
                if (day[4] <= rules[3] && day[0] > most) {
                    most = day[0];
                    best = mark;
                }
            }
            return best;
        }

        int test(int n, int sway, int k, int from, int to) {
            if (out(n, 0, 99) || out(sway, 0, 9999) || out(k, 1, 30)) return -2;
            if (out(from, 0, 9999) || out(to, 0, 9999) || from > to) return -2;
            if (tests.size() == 20) return -4;
            tests.add(new int[] {n, sway, k, from, to});
            fit = null;
            return tests.size() - 1;
        }

        int forget(int test) {
            if (out(test, 0, tests.size() - 1)) return -1;
            tests.remove(test);
            fit = null;
            return tests.size();
        }

        static int comesOut(int n, int sway, int k, int p, int d) {
            int at = sway;
            for (int i = 0; i < k; i++) at = beat(at, n * p / 100 - d);
            return at;
        }

        int firstBroken(int p, int d) {
            for (int i = 0; i < tests.size(); i++) {
                int[] t = tests.get(i);
                int at = comesOut(t[0], t[1], t[2], p, d);
                if (at < t[3] || at > t[4]) return i;
            }
            return -9;
        }

        List<Integer> fitting() {
            if (fit == null) {
                fit = new ArrayList<>();
                for (int p = 0; p <= 49; p++) {
                    for (int d = 1; d <= 50; d++) {
                        if (firstBroken(p, d) == -9) fit.add(100 * p + d);
                    }
                }
            }
            return fit;
        }

        int laws() {
            return fitting().size();
        }

        int law(int i) {
            return out(i, 0, laws() - 1) ? -9 : fitting().get(i);
        }

        int among(boolean ofPush, boolean most) {
            if (laws() == 0) return -9;
            int found = ofPush ? fitting().get(0) / 100 : fitting().get(0) % 100;
            for (int law : fitting()) {
                int v = ofPush ? law / 100 : law % 100;
                found = most ? Math.max(found, v) : Math.min(found, v);
            }
            return found;
        }

        int breaks(int law) {
            for (int p = 0; p <= 49; p++) {
                for (int d = 1; d <= 50; d++) {
                    if (100 * p + d == law) return firstBroken(p, d);
                }
            }
            return -2;
        }

        boolean lawSettles(int n, int law) {
            int at = rules[1];
            for (int i = 0; i < 10000; i++) {
                int then = beat(at, n * (law / 100) / 100 - law % 100);
                if (then == at) break;
                at = then;
            }
            return at == 0;
        }

        int sure(int n) {
            if (out(n, 0, 999)) return -2;
            int settling = 0;
            for (int law : fitting()) {
                if (lawSettles(n, law)) settling++;
            }
            return settling == 0 ? 0 : settling == laws() ? 2 : 1;
        }

        int safe() {
            int greatest = -9;
            for (int n = 0; n <= 999 && sure(n) == 2; n++) greatest = n;
            return greatest;
        }

        int next(int k) {
            if (out(k, 1, 30)) return -2;
            if (laws() < 2) return -9;
            int best = -9;
            int fewest = Integer.MAX_VALUE;
            for (int n = 0; n <= 99; n++) {
                int[] alike = new int[10000];
                int most = 0;
                for (int law : fitting()) {
                    int at = comesOut(n, rules[1], k, law / 100, law % 100);
                    most = Math.max(most, ++alike[at]);
                }
                if (most < fewest) {
                    fewest = most;
                    best = n;
                }
            }
            return best;
        }

        int count(int what) {
            switch (what) {
                case 0: return weights.length;
                case 1: return dampers.size();
                case 2: return (int) dampers.stream().filter(d -> d[3] == 1).count();
                case 3: return tests.size();
                case 4: return Arrays.stream(crowd).sum();
                case 5: return Arrays.stream(arrivals).sum();
                default: return -2;
            }
        }
    }
}
