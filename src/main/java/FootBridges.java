import java.util.Arrays;

/** Bridges under walkers: tones, sway, dampers, people on the way, and laws that fit tests. */
public final class FootBridges {
    public static final int UNKNOWN = -1, BAD = -2, STATE = -3, FULL = -4, NONE = -9;

    private static final int MOST_SWAY = 9999;
    private static final int MOST_CROWD = 999;
    private static final int MOST_TONE = 400;
    private static final int MOST_BEATS = 10000;
    private static final int NET_SHIFT = 100000;

    private static final int DAMPING = 0, SMALL = 1, CARRY = 2, COMFORT = 3;
    private static final int[] RULE_LEAST = {1, 1, 0, 0};
    private static final int[] RULE_MOST = {500, 9999, 999, 9999};

    private static final int PIECES = 0, HOLD = 1, FLOW = 2, LET = 3, MARK = 4, LATE = 5;
    private static final int[] WAY_LEAST = {1, 1, 1, 0, 0, 0};
    private static final int[] WAY_MOST = {8, 99, 99, 99, 999, 9};

    private final int[] rules = {10, 10, 100, 100};
    private final Beam beam = new Beam();
    private final Walkers walkers = new Walkers();
    private final Dampers dampers = new Dampers();
    private final People people = new People();
    private final Trials trials = new Trials();

    public FootBridges() {
    }

    // ---- tones

    public int span(int n) {
        if (!isWithin(n, 1, Beam.MOST_WEIGHTS)) {
            return BAD;
        }
        int was = beam.size;
        beam.makeAnew(n);
        return was;
    }

    public int weight(int weight, int v) {
        if (!isWithin(weight, 0, beam.size - 1)) {
            return UNKNOWN;
        }
        if (!isWithin(v, 1, 9)) {
            return BAD;
        }
        return exchange(beam.weights, weight, v);
    }

    public int spring(int spring, int v) {
        if (!isWithin(spring, 0, beam.size)) {
            return UNKNOWN;
        }
        int least = spring == 0 || spring == beam.size ? 0 : 1;
        if (!isWithin(v, least, 99)) {
            return BAD;
        }
        return exchange(beam.springs, spring, v);
    }

    public int below(int t) {
        return isWithin(t, 0, MOST_TONE) ? beam.tonesBelow(t) : BAD;
    }

    public int tone(int k) {
        return isWithin(k, 0, beam.size - 1) ? beam.wholeTone(k) : UNKNOWN;
    }

    public int isTone(int t) {
        return isWithin(t, 0, MOST_TONE) ? asNumber(beam.hasTone(t)) : BAD;
    }

    // ---- sway

    public int sort(int sort, int push, int lock, int stop) {
        if (!isSort(sort)) {
            return UNKNOWN;
        }
        if (!isWithin(push, 0, 99) || !isSway(lock) || !isSway(stop)) {
            return BAD;
        }
        dampers.forgetChoice();
        walkers.lock[sort] = lock;
        walkers.stop[sort] = stop;
        return exchange(walkers.push, sort, push);
    }

    public int crowd(int sort, int n) {
        if (!isSort(sort)) {
            return UNKNOWN;
        }
        if (!isWithin(n, 0, MOST_CROWD)) {
            return BAD;
        }
        dampers.forgetChoice();
        return exchange(walkers.crowd, sort, n);
    }

    public int rule(int what, int v) {
        if (!isWithin(what, DAMPING, COMFORT) || !isWithin(v, RULE_LEAST[what], RULE_MOST[what])) {
            return BAD;
        }
        dampers.forgetChoice();
        return exchange(rules, what, v);
    }

    public int net(int sway) {
        return isSway(sway) ? walkers.netAt(sway, allDamping()) + NET_SHIFT : BAD;
    }

    public int beats(int sway, int n) {
        if (!isSway(sway) || !isWithin(n, 0, MOST_BEATS)) {
            return BAD;
        }
        return walkers.swayBehind(sway, n, allDamping());
    }

    public int settles(int sway) {
        return isSway(sway) ? walkers.beatsTillStill(sway, allDamping()) : BAD;
    }

    public int ring(int sway, int what) {
        if (!isSway(sway) || !isWithin(what, Walkers.RING_LEAST, Walkers.RING_AHEAD)) {
            return BAD;
        }
        return walkers.ringFigure(sway, what, allDamping());
    }

    public int tooMany(int sort) {
        return isSort(sort) ? walkers.fewestTooMany(sort, rules[SMALL], allDamping()) : UNKNOWN;
    }

    public int inStep(int sway) {
        return isSway(sway) ? walkers.countInStep(sway) : BAD;
    }

    // ---- dampers

    public int damper(int add, int price, int load) {
        if (!isWithin(add, 1, Dampers.MOST_ADD) || !isWithin(price, 0, 9999) || !isWithin(load, 0, 99)) {
            return BAD;
        }
        return dampers.count < Dampers.MOST ? dampers.putNew(add, price, load) : FULL;
    }

    public int build(int damper, boolean built) {
        if (!isWithin(damper, 0, dampers.count - 1)) {
            return UNKNOWN;
        }
        return exchange(dampers.built, damper, asNumber(built));
    }

    public int cheapest() {
        dampers.choose(walkers, rules);
        return dampers.chosenPrice();
    }

    public int bought(int i) {
        dampers.choose(walkers, rules);
        return dampers.chosenAt(i);
    }

    // ---- people

    public int way(int what, int v) {
        if (!isWithin(what, PIECES, LATE) || !isWithin(v, WAY_LEAST[what], WAY_MOST[what])) {
            return BAD;
        }
        return exchange(people.settings, what, v);
    }

    public int arrive(int minute, int n) {
        if (!isWithin(minute, 0, People.MOST_MINUTES - 1) || !isWithin(n, 0, 99)) {
            return BAD;
        }
        return exchange(people.arrivals, minute, n);
    }

    public int day(int m, int what) {
        if (!isDay(m) || !isWithin(what, 0, 5)) {
            return BAD;
        }
        walkDay(m);
        switch (what) {
            case 0:
                return people.over;
            case 1:
                return people.onBridge;
            case 2:
                return people.queue;
            case 3:
                return people.sway;
            case 4:
                return people.greatestSway;
            default:
                return people.mostOnBridge;
        }
    }

    public int on(int m, int piece) {
        if (!isDay(m)) {
            return BAD;
        }
        if (!isWithin(piece, 0, people.settings[PIECES] - 1)) {
            return UNKNOWN;
        }
        walkDay(m);
        return people.onPiece[piece];
    }

    public int bestMark(int m) {
        return isDay(m) ? people.markOfMostOver(m, walkers, rules, allDamping()) : BAD;
    }

    // ---- tests

    public int test(int n, int sway, int k, int from, int to) {
        if (!isWithin(n, 0, 99) || !isSway(sway) || !isBeatsOfTest(k)) {
            return BAD;
        }
        if (!isSway(from) || !isSway(to) || from > to) {
            return BAD;
        }
        return trials.count < Trials.MOST ? trials.putNew(n, sway, k, from, to) : FULL;
    }

    public int forget(int test) {
        return isWithin(test, 0, trials.count - 1) ? trials.drop(test) : UNKNOWN;
    }

    public int laws() {
        return trials.fitting;
    }

    public int law(int i) {
        return trials.codeAt(i);
    }

    public int among(boolean push, boolean most) {
        return trials.fitting == 0 ? NONE : trials.farthest(push, most);
    }

    public int breaks(int law) {
        int push = law / Trials.CODE;
        int damping = law % Trials.CODE;
        if (!isWithin(push, 0, Trials.MOST_PUSH) || !isWithin(damping, 1, Trials.MOST_DAMPING)) {
            return BAD;
        }
        return trials.firstBroken(push, damping);
    }

    public int sure(int n) {
        return isWithin(n, 0, MOST_CROWD) ? trials.sureness(n) : BAD;
    }

    public int safe() {
        return trials.fitting == 0 ? NONE : trials.mostSafe();
    }

    public int next(int k) {
        if (!isBeatsOfTest(k)) {
            return BAD;
        }
        return trials.fitting < 2 ? NONE : trials.bestParting(rules[SMALL], k);
    }

    public int count(int what) {
        switch (what) {
            case 0:
                return beam.size;
            case 1:
                return dampers.count;
            case 2:
                return sum(dampers.built);
            case 3:
                return trials.count;
            case 4:
                return sum(walkers.crowd);
            case 5:
                return sum(people.arrivals);
            default:
                return BAD;
        }
    }

    // ---- what many calls use

    private int allDamping() {
        return rules[DAMPING] + dampers.addOfBuilt();
    }

    private void walkDay(int m) {
        people.walkDay(m, people.settings[MARK], MOST_SWAY, walkers, rules[SMALL], allDamping());
    }

    private static boolean isWithin(int v, int least, int most) {
        return v >= least && v <= most;
    }

    private static boolean isSway(int v) {
        return isWithin(v, 0, MOST_SWAY);
    }

    private static boolean isSort(int v) {
        return isWithin(v, 0, Walkers.SORTS - 1);
    }

    private static boolean isDay(int v) {
        return isWithin(v, 1, People.MOST_MINUTES);
    }

    private static boolean isBeatsOfTest(int v) {
        return isWithin(v, 1, 30);
    }

    private static int asNumber(boolean yes) {
        return yes ? 1 : 0;
    }

    /** Callers have looked at the index. */
    private static int exchange(int[] row, int index, int v) {
        int was = row[index];
        row[index] = v;
        return was;
    }

    private static int sum(int[] row) {
        int all = 0;
        for (int v : row) {
            all += v;
        }
        return all;
    }

    private static int beat(int sway, int net) {
        int moved = sway + Math.floorDiv(sway * net, 1000);
        return Math.max(0, Math.min(MOST_SWAY, moved));
    }

    /** The span: its tones are found in whole numbers, so that a tone that is whole is met exactly. */
    private static final class Beam {
        private static final int MOST_WEIGHTS = 5;

        private final int[] weights = new int[MOST_WEIGHTS];
        private final int[] springs = new int[MOST_WEIGHTS + 1];
        private final long[] minors = new long[MOST_WEIGHTS + 1];
        private int size;

        private Beam() {
            makeAnew(1);
        }

        private void makeAnew(int n) {
            size = n;
            Arrays.fill(weights, 1);
            Arrays.fill(springs, 1);
        }

        /**
         * The leading minors of (springs less t times weights). With t up to 400 and weights up to 9
         * an entry is below 3700, so the largest minor stays below 3700 to the fifth: a long holds it.
         */
        private void fillMinors(int t) {
            minors[0] = 1;
            for (int i = 0; i < size; i++) {
                long own = springs[i] + springs[i + 1] - t * weights[i];
                long minor = own * minors[i];
                if (i > 0) {
                    minor -= (long) springs[i] * springs[i] * minors[i - 1];
                }
                minors[i + 1] = minor;
            }
        }

        /**
         * As many tones are below t as the minors change sign. Springs between weights are never 0, so
         * no two minors in a row are 0, and the neighbours of a 0 differ in sign: a 0 is passed over.
         */
        private int tonesBelow(int t) {
            fillMinors(t);
            int changes = 0;
            boolean negative = false;
            for (int i = 1; i <= size; i++) {
                if (minors[i] != 0 && (minors[i] < 0) != negative) {
                    changes++;
                    negative = !negative;
                }
            }
            return changes;
        }

        private boolean hasTone(int t) {
            fillMinors(t);
            return minors[size] == 0;
        }

        /** No tone is above 396 (four times the stiffest spring by the least weight). */
        private int wholeTone(int k) {
            int whole = 0;
            for (int t = 1; t <= MOST_TONE && tonesBelow(t) <= k; t++) {
                whole = t;
            }
            return whole;
        }
    }

    /** The sorts of walkers, and the sway under them. */
    private static final class Walkers {
        private static final int SORTS = 4;
        private static final int RING_LEAST = 0, RING_GREATEST = 1, RING_SIZE = 2, RING_AHEAD = 3;
        private static final int MOST_BEATS_TILL_KNOWN = 30000;

        private final int[] push = new int[SORTS];
        private final int[] lock = new int[SORTS];
        private final int[] stop = {MOST_SWAY, MOST_SWAY, MOST_SWAY, MOST_SWAY};
        private final int[] crowd = new int[SORTS];
        private int kept;

        private boolean isInStep(int sort, int sway) {
            return sway >= lock[sort] && sway <= stop[sort];
        }

        private int countInStep(int sway) {
            int all = 0;
            for (int i = 0; i < SORTS; i++) {
                if (isInStep(i, sway)) {
                    all += crowd[i];
                }
            }
            return all;
        }

        private int pushAt(int sway) {
            int all = 0;
            for (int i = 0; i < SORTS; i++) {
                if (isInStep(i, sway)) {
                    all += crowd[i] * push[i];
                }
            }
            return all;
        }

        private int netAt(int sway, int damping) {
            return pushAt(sway) / 100 - damping;
        }

        /** The net of a crowd of n of sort 0 and nobody else. */
        private int netOfFirstSort(int n, int sway, int damping) {
            return (isInStep(0, sway) ? n * push[0] / 100 : 0) - damping;
        }

        private int beatFrom(int sway, int damping) {
            return beat(sway, pushAt(sway) / 100 - damping);
        }

        private int swayBehind(int sway, int n, int damping) {
            int at = sway;
            for (int i = 0; i < n; i++) {
                int before = at;
                at = beatFrom(before, damping);
                if (at == before) {
                    return at;
                }
            }
            return at;
        }

        /**
         * Beats till 0, or NONE, with a sway of the ring kept. The sways at beats 1, 2, 4, 8, .. are
         * kept in turn: once one of them is met again, it stands in a ring. As there are 9999 sways
         * but 0, that comes about while the one of beat 16384 is kept, at the latest.
         */
        private int beatsTillStill(int sway, int damping) {
            int at = sway;
            int keepAt = 1;
            kept = sway;
            for (int beats = 0; beats < MOST_BEATS_TILL_KNOWN; beats++) {
                if (at == 0) {
                    return beats;
                }
                if (beats == keepAt) {
                    kept = at;
                    keepAt *= 2;
                }
                at = beatFrom(at, damping);
                if (at == kept) {
                    return NONE;
                }
            }
            return NONE;
        }

        private int ringFigure(int sway, int what, int damping) {
            if (beatsTillStill(sway, damping) != NONE) {
                return NONE;
            }
            switch (what) {
                case RING_LEAST:
                    return ringEnd(kept, false, damping);
                case RING_GREATEST:
                    return ringEnd(kept, true, damping);
                case RING_SIZE:
                    return ringSize(kept, damping);
                default:
                    return beatsAheadOfRing(sway, ringSize(kept, damping), damping);
            }
        }

        private int ringEnd(int inRing, boolean greatest, int damping) {
            int end = inRing;
            int at = beatFrom(inRing, damping);
            for (int i = 0; i < MOST_BEATS && at != inRing; i++) {
                end = greatest ? Math.max(end, at) : Math.min(end, at);
                at = beatFrom(at, damping);
            }
            return end;
        }

        private int ringSize(int inRing, int damping) {
            int size = 1;
            int at = beatFrom(inRing, damping);
            for (int i = 0; i < MOST_BEATS && at != inRing; i++) {
                size++;
                at = beatFrom(at, damping);
            }
            return size;
        }

        /** Two that go a whole ring apart meet just where the ring begins. */
        private int beatsAheadOfRing(int sway, int ringSize, int damping) {
            int behind = sway;
            int ahead = swayBehind(sway, ringSize, damping);
            int beats = 0;
            for (int i = 0; i < MOST_BEATS && behind != ahead; i++) {
                behind = beatFrom(behind, damping);
                ahead = beatFrom(ahead, damping);
                beats++;
            }
            return beats;
        }

        /** More walkers may settle where fewer do not, so each number is tried that changes a net. */
        private int fewestTooMany(int sort, int small, int damping) {
            int was = crowd[sort];
            int answer = NONE;
            int n = 0;
            for (int i = 0; i <= MOST_CROWD && n <= MOST_CROWD && answer == NONE; i++) {
                crowd[sort] = n;
                if (beatsTillStill(small, damping) == NONE) {
                    answer = n;
                } else {
                    n += moreToChangeNet(sort);
                }
            }
            crowd[sort] = was;
            return answer;
        }

        /** Who is in step changes only at locks and just above stops: no other sway need be asked. */
        private int moreToChangeNet(int sort) {
            int fewest = MOST_CROWD + 1;
            for (int i = 0; i < SORTS; i++) {
                fewest = Math.min(fewest, moreToChangeNetAt(lock[i], sort));
                fewest = Math.min(fewest, moreToChangeNetAt(stop[i] + 1, sort));
            }
            return fewest;
        }

        private int moreToChangeNetAt(int sway, int sort) {
            if (push[sort] == 0 || !isInStep(sort, sway)) {
                return MOST_CROWD + 1;
            }
            int lacking = 100 - pushAt(sway) % 100;
            return (lacking + push[sort] - 1) / push[sort];
        }
    }

    /** The dampers, and the cheapest set of them as long as nothing changes that it hangs on. */
    private static final class Dampers {
        private static final int MOST = 10;
        private static final int MOST_ADD = 500;
        private static final int BITS = 64;

        private final int[] add = new int[MOST];
        private final int[] price = new int[MOST];
        private final int[] load = new int[MOST];
        private final int[] built = new int[MOST];
        private final long[] tried = new long[MOST * MOST_ADD / BITS + 1];
        private final long[] settling = new long[MOST * MOST_ADD / BITS + 1];
        private int count;
        private boolean choiceKnown;
        private int chosen;

        private int putNew(int newAdd, int newPrice, int newLoad) {
            forgetChoice();
            add[count] = newAdd;
            price[count] = newPrice;
            load[count] = newLoad;
            count++;
            return count - 1;
        }

        private int addOfBuilt() {
            int all = 0;
            for (int i = 0; i < count; i++) {
                all += built[i] * add[i];
            }
            return all;
        }

        private void forgetChoice() {
            choiceKnown = false;
        }

        private int chosenPrice() {
            return chosen == NONE ? NONE : total(price, chosen);
        }

        private int chosenAt(int place) {
            if (chosen == NONE || place < 0) {
                return NONE;
            }
            int passed = 0;
            for (int i = 0; i < count; i++) {
                if (isIn(i, chosen)) {
                    if (passed == place) {
                        return i;
                    }
                    passed++;
                }
            }
            return NONE;
        }

        /** Damper 0 is the highest bit: of sets of one size the greater number is the first by numbers. */
        private boolean isIn(int damper, int set) {
            return (set >> (count - 1 - damper) & 1) == 1;
        }

        private int total(int[] row, int set) {
            int all = 0;
            for (int i = 0; i < count; i++) {
                if (isIn(i, set)) {
                    all += row[i];
                }
            }
            return all;
        }

        private void choose(Walkers walkers, int[] rules) {
            if (choiceKnown) {
                return;
            }
            Arrays.fill(tried, 0);
            Arrays.fill(settling, 0);
            chosen = NONE;
            for (int set = (1 << count) - 1; set >= 0; set--) {
                if (total(load, set) <= rules[CARRY] && isBetter(set)
                        && settlesWith(total(add, set), walkers, rules)) {
                    chosen = set;
                }
            }
            choiceKnown = true;
        }

        private boolean isBetter(int set) {
            if (chosen == NONE) {
                return true;
            }
            int more = total(price, set) - total(price, chosen);
            return more < 0 || more == 0 && Integer.bitCount(set) < Integer.bitCount(chosen);
        }

        /** Many sets add the same: each sum is tried once, and has a bit, as a row of 5001 takes much room. */
        private boolean settlesWith(int added, Walkers walkers, int[] rules) {
            int place = added / BITS;
            long bit = 1L << added % BITS;
            if ((tried[place] & bit) == 0) {
                tried[place] |= bit;
                if (walkers.beatsTillStill(rules[SMALL], rules[DAMPING] + added) != NONE) {
                    settling[place] |= bit;
                }
            }
            return (settling[place] & bit) != 0;
        }
    }

    /** The way over the bridge, its gate, and what the day last walked came to. */
    private static final class People {
        private static final int MOST_MINUTES = 60;
        private static final int MOST_PIECES = 8;
        private static final int MOST_MARK_TRIED = 200;
        private static final int NEVER_SHUT = 1000;

        private final int[] settings = {4, 20, 10, 10, 999, 1};
        private final int[] arrivals = new int[MOST_MINUTES];
        private final int[] onPiece = new int[MOST_PIECES];
        private final int[] onAtEnd = new int[MOST_MINUTES];
        private int over;
        private int onBridge;
        private int queue;
        private int sway;
        private int greatestSway;
        private int mostOnBridge;
        private int leastKnownShut;

        private void clear(int small) {
            Arrays.fill(onPiece, 0);
            over = 0;
            onBridge = 0;
            queue = 0;
            sway = small;
            greatestSway = 0;
            mostOnBridge = 0;
            leastKnownShut = NEVER_SHUT;
        }

        /** The day ends early when its sway is above what it may be: nothing more is asked of it then. */
        private void walkDay(int m, int mark, int mostSway, Walkers walkers, int small, int damping) {
            clear(small);
            for (int minute = 0; minute < m && greatestSway <= mostSway; minute++) {
                queue += arrivals[minute];
                goOn();
                letIn(minute, mark);
                onAtEnd[minute] = onBridge;
                mostOnBridge = Math.max(mostOnBridge, onBridge);
                sway = beat(sway, walkers.netOfFirstSort(onBridge, sway, damping));
                greatestSway = Math.max(greatestSway, sway);
            }
        }

        private void goOn() {
            int last = settings[PIECES] - 1;
            int leaving = Math.min(onPiece[last], settings[FLOW]);
            onPiece[last] -= leaving;
            onBridge -= leaving;
            over += leaving;
            for (int i = last - 1; i >= 0; i--) {
                int room = settings[HOLD] - onPiece[i + 1];
                int going = Math.min(Math.min(onPiece[i], settings[FLOW]), room);
                onPiece[i] -= going;
                onPiece[i + 1] += going;
            }
        }

        private void letIn(int minute, int mark) {
            int known = knownAtGate(minute);
            if (known >= mark) {
                leastKnownShut = Math.min(leastKnownShut, known);
                return;
            }
            int room = settings[HOLD] - onPiece[0];
            int entering = Math.min(Math.min(queue, settings[LET]), room);
            queue -= entering;
            onPiece[0] += entering;
            onBridge += entering;
        }

        private int knownAtGate(int minute) {
            if (settings[LATE] == 0) {
                return onBridge;
            }
            int then = minute - settings[LATE];
            return then < 0 ? 0 : onAtEnd[then];
        }

        /** A day goes the same way with all marks up to the least number that shut its gate. */
        private int markOfMostOver(int m, Walkers walkers, int[] rules, int damping) {
            int best = NONE;
            int mostOver = -1;
            int mark = 0;
            for (int i = 0; i <= MOST_MARK_TRIED && mark <= MOST_MARK_TRIED; i++) {
                walkDay(m, mark, rules[COMFORT], walkers, rules[SMALL], damping);
                if (greatestSway <= rules[COMFORT] && over > mostOver) {
                    best = mark;
                    mostOver = over;
                }
                mark = leastKnownShut + 1;
            }
            return best;
        }
    }

    /** The tests by few walkers, and the laws that fit them. */
    private static final class Trials {
        private static final int MOST = 20;
        private static final int MOST_PUSH = 49;
        private static final int MOST_DAMPING = 50;
        private static final int CODE = 100;
        private static final int LEAST_NET = -MOST_DAMPING;
        private static final int MOST_NET = 99 * MOST_PUSH / 100 - 1;

        private final int[] walking = new int[MOST];
        private final int[] leastNet = new int[MOST];
        private final int[] mostNet = new int[MOST];
        private final long[] fits = new long[MOST_PUSH + 1];
        private final int[] groups = new int[MOST_NET - LEAST_NET + 1];
        private final int[] inGroup = new int[MOST_NET - LEAST_NET + 1];
        private int count;
        private int fitting;

        private Trials() {
            findFitting();
        }

        private static int lawNet(int n, int push, int damping) {
            return n * push / 100 - damping;
        }

        private static int swayByNet(int sway, int net, int beats) {
            int at = sway;
            for (int i = 0; i < beats; i++) {
                at = beat(at, net);
            }
            return at;
        }

        /**
         * By these nets, all above -1000, a beat never turns the order of two sways, and a greater
         * net never comes out lower: the nets that fit a reading have no gap, and two ends tell them.
         */
        private int putNew(int n, int sway, int k, int from, int to) {
            int least = MOST_NET + 1;
            int most = LEAST_NET - 1;
            for (int net = MOST_NET; net >= LEAST_NET; net--) {
                int comesOut = swayByNet(sway, net, k);
                if (comesOut >= from) {
                    least = net;
                }
                if (comesOut <= to) {
                    most = Math.max(most, net);
                }
            }
            walking[count] = n;
            leastNet[count] = least;
            mostNet[count] = most;
            count++;
            findFitting();
            return count - 1;
        }

        private int drop(int test) {
            count--;
            for (int i = test; i < count; i++) {
                walking[i] = walking[i + 1];
                leastNet[i] = leastNet[i + 1];
                mostNet[i] = mostNet[i + 1];
            }
            findFitting();
            return count;
        }

        /** A push has one bit for each damping with which it fits, as a row of 2500 laws takes much room. */
        private void findFitting() {
            fitting = 0;
            for (int push = 0; push <= MOST_PUSH; push++) {
                fits[push] = 0;
                for (int damping = 1; damping <= MOST_DAMPING; damping++) {
                    if (firstBroken(push, damping) == NONE) {
                        fits[push] |= 1L << damping;
                        fitting++;
                    }
                }
            }
        }

        private boolean isFitting(int push, int damping) {
            return (fits[push] >> damping & 1) == 1;
        }

        private int codeAt(int place) {
            int passed = 0;
            for (int push = 0; push <= MOST_PUSH; push++) {
                for (int damping = 1; damping <= MOST_DAMPING; damping++) {
                    if (isFitting(push, damping)) {
                        if (passed == place) {
                            return CODE * push + damping;
                        }
                        passed++;
                    }
                }
            }
            return NONE;
        }

        private int firstBroken(int push, int damping) {
            for (int i = 0; i < count; i++) {
                int net = lawNet(walking[i], push, damping);
                if (net < leastNet[i] || net > mostNet[i]) {
                    return i;
                }
            }
            return NONE;
        }

        private int farthest(boolean ofPush, boolean most) {
            int found = NONE;
            for (int push = 0; push <= MOST_PUSH; push++) {
                for (int damping = 1; damping <= MOST_DAMPING; damping++) {
                    int v = ofPush ? push : damping;
                    if (isFitting(push, damping) && (found == NONE || (most ? v > found : v < found))) {
                        found = v;
                    }
                }
            }
            return found;
        }

        /** By one net for all sways it settles just when the net is below 0. */
        private int sureness(int n) {
            int settling = 0;
            for (int push = 0; push <= MOST_PUSH; push++) {
                for (int damping = 1; damping <= MOST_DAMPING; damping++) {
                    if (isFitting(push, damping) && lawNet(n, push, damping) < 0) {
                        settling++;
                    }
                }
            }
            if (settling == 0) {
                return 0;
            }
            return settling == fitting ? 2 : 1;
        }

        /** More walkers never lower a net, so each law has one greatest number by which it settles. */
        private int mostSafe() {
            int most = MOST_CROWD;
            for (int push = 1; push <= MOST_PUSH; push++) {
                for (int damping = 1; damping <= MOST_DAMPING; damping++) {
                    if (isFitting(push, damping)) {
                        most = Math.min(most, (100 * damping - 1) / push);
                    }
                }
            }
            return most;
        }

        private int bestParting(int small, int k) {
            groupNets(small, k);
            int best = NONE;
            int fewest = fitting + 1;
            for (int n = 0; n <= 99; n++) {
                int alike = mostAlike(n, fewest);
                if (alike < fewest) {
                    fewest = alike;
                    best = n;
                }
            }
            return best;
        }

        /** Nets that come out alike stand side by side, as a greater net never comes out lower. */
        private void groupNets(int small, int k) {
            int group = 0;
            int before = swayByNet(small, LEAST_NET, k);
            for (int i = 0; i < groups.length; i++) {
                int comesOut = swayByNet(small, LEAST_NET + i, k);
                if (comesOut != before) {
                    group++;
                }
                groups[i] = group;
                before = comesOut;
            }
        }

        /** It stops at a push by which the number is no better than what was found before. */
        private int mostAlike(int n, int enough) {
            Arrays.fill(inGroup, 0);
            int most = 0;
            for (int push = 0; push <= MOST_PUSH && most < enough; push++) {
                for (int damping = 1; damping <= MOST_DAMPING; damping++) {
                    if (isFitting(push, damping)) {
                        int group = groups[lawNet(n, push, damping) - LEAST_NET];
                        inGroup[group]++;
                        most = Math.max(most, inGroup[group]);
                    }
                }
            }
            return most;
        }
    }
}
