/**
 * Each sentence of the document's part 5 and promises 26 to 35 that names a boundary, in its own words and
 * with a test of its own. What is due was worked out from the words, not taken from the class.
 */
public final class SentencesOfTests {
    private static final int UNKNOWN = -1, BAD = -2, FULL = -4, NONE = -9;
    private static final int LOW = Integer.MIN_VALUE, HIGH = Integer.MAX_VALUE;
    private static String sentence = "";
    private static int sentences = 0;
    private static int asked = 0;
    private static int wrong = 0;

    public static void main(String[] args) {
        termsOfTests();
        promisesOfTests();
        System.out.println(sentences + " sentences, " + asked + " calls asked, " + wrong + " wrong");
        if (wrong != 0) {
            System.exit(1);
        }
    }

    private static void says(String words) {
        sentence = words;
        sentences++;
    }

    private static void due(String call, int got, int want) {
        asked++;
        if (got != want) {
            wrong++;
            System.out.println("\"" + sentence + "\": " + call + " answered " + got + ", due is " + want);
        }
    }

    // ======== terms 5: tests and laws

    private static void termsOfTests() {
        twentyTests();
        rangeOfTests();
        rangeOfLaws();
        netOfLaws();
        comesOutAsRead();
        leastLawFirst();
        rangeOfWalkers();
        sureOrMayBe();
        safeUpTo();
        nextOfAll();
        partsBest();
        leastNextOfLike();
        fewerThanTwo();
    }

    /** One DAMPING alone fits. */
    private static FootBridges ofDamping(int damping) {
        FootBridges x = new FootBridges();
        x.test(0, 1000, 1, 1000 - damping, 1000 - damping);
        return x;
    }

    private static void twentyTests() {
        says("TESTS 0, 1, .. (20 at most)");
        FootBridges x = new FootBridges();
        due("forget(0) at first", x.forget(0), UNKNOWN);
        for (int i = 0; i < 20; i++) {
            due("the number of a new one", x.test(0, 0, 1, 0, 0), i);
        }
        due("a twenty-first", x.test(0, 0, 1, 0, 0), FULL);
        due("count(3)", x.count(3), 20);
        due("forget(19)", x.forget(19), 19);
        due("a twentieth again", x.test(0, 1000, 1, 0, 0), 19);
        due("the twentieth counts", x.laws(), 0);
        due("the twentieth is the one that breaks", x.breaks(1), 19);
    }

    private static void rangeOfTests() {
        says("n walkers (0 .. 99), a SWAY at first, k BEATS (1 .. 30), a SWAY read from .. to");
        FootBridges x = new FootBridges();
        for (int v : new int[] {-1, 100, LOW, HIGH}) {
            due("n " + v, x.test(v, 0, 1, 0, 0), BAD);
        }
        for (int v : new int[] {-1, 10000, LOW, HIGH}) {
            due("sway " + v, x.test(0, v, 1, 0, 0), BAD);
            due("from " + v, x.test(0, 0, 1, v, 9999), BAD);
            due("to " + v, x.test(0, 0, 1, 0, v), BAD);
        }
        for (int v : new int[] {0, 31, -1, LOW, HIGH}) {
            due("k " + v, x.test(0, 0, v, 0, 0), BAD);
        }
        due("the least", x.test(0, 0, 1, 0, 0), 0);
        due("the most", x.test(99, 9999, 30, 0, 9999), 1);
        due("read 9999", x.test(99, 9999, 30, 9999, 9999), 2);
        // 9999 stays there by nets of 0 and more: 48 dampings by a PUSH of 49, 47 by one of 48, ..
        due("a net of 0 and more", x.laws(), 48 * 49 / 2);
    }

    private static void rangeOfLaws() {
        says("LAWS are pairs of a PUSH p (0 .. 49) and a DAMPING d (1 .. 50)");
        FootBridges x = new FootBridges();
        due("laws()", x.laws(), 2500);
        for (int i = 0; i < 50; i++) {
            due("breaks(100 " + i + " and 0)", x.breaks(100 * i), BAD);
            due("breaks(100 " + i + " and 1)", x.breaks(100 * i + 1), NONE);
            due("breaks(100 " + i + " and 50)", x.breaks(100 * i + 50), NONE);
            due("breaks(100 " + i + " and 51)", x.breaks(100 * i + 51), BAD);
        }
        due("a PUSH of 50", x.breaks(5001), BAD);
        due("a PUSH of -1", x.breaks(-99), BAD);
        due("least PUSH", x.among(true, false), 0);
        due("greatest PUSH", x.among(true, true), 49);
        due("least DAMPING", x.among(false, false), 1);
        due("greatest DAMPING", x.among(false, true), 50);
        due("a DAMPING of 50 alone", ofDamping(50).laws(), 50);
        due("a DAMPING of 51", ofDamping(51).laws(), 0);
        due("a DAMPING of 0", ofDamping(0).laws(), 0);
    }

    private static void netOfLaws() {
        says("by them THE NET is n times p by 100, cut, less d");
        // With a DAMPING of 10: 50 walkers, a PUSH of 1 is 0.5, of 2 is 1, of 3 is 1.5.
        int[] reads = {990, 991, 992};
        int[][] ends = {{0, 1}, {2, 3}, {4, 5}};
        for (int i = 0; i < reads.length; i++) {
            FootBridges x = ofDamping(10);
            x.test(50, 1000, 1, reads[i], reads[i]);
            due("read " + reads[i] + ": laws", x.laws(), 2);
            due("read " + reads[i] + ": least PUSH", x.among(true, false), ends[i][0]);
            due("read " + reads[i] + ": greatest PUSH", x.among(true, true), ends[i][1]);
        }
        FootBridges most = ofDamping(1);
        most.test(99, 1000, 1, 1047, 1047);
        due("99 times 49 by 100 less 1", most.law(0), 4901);
        due("99 times 49 by 100 less 1, alone", most.laws(), 1);
    }

    private static void comesOutAsRead() {
        says("A LAW FITS, if each TEST comes out as read by BEATS with its NET.");
        // By -20 from 1000: 980, then 960 (19.6 is cut down to 20).
        FootBridges x = new FootBridges();
        x.test(0, 1000, 2, 960, 960);
        due("as read", x.breaks(20), NONE);
        due("958 is not 960", x.breaks(21), 0);
        x.test(0, 1000, 2, 958, 959);
        due("959 is below", x.breaks(20), 1);
        x.forget(1);
        x.test(0, 1000, 2, 961, 9999);
        due("961 is above", x.breaks(20), 1);
        x.forget(1);
        x.test(0, 1000, 2, 959, 960);
        due("at the upper end", x.breaks(20), NONE);
        x.test(0, 1000, 2, 960, 961);
        due("at the lower end", x.breaks(20), NONE);
        x.test(0, 1000, 30, 0, 9999);
        due("whatever is read", x.breaks(20), NONE);
        due("each TEST", x.laws(), 50);
        // Thirty BEATS by -1 from 30 come to 0, twenty-nine to 1.
        FootBridges down = new FootBridges();
        down.test(0, 30, 29, 1, 1);
        down.test(0, 30, 30, 0, 0);
        due("-1 from 30", down.breaks(1), NONE);
        due("-33 from 30", down.breaks(33), NONE);
        due("-34 from 30", down.breaks(34), 0);
        // 0 stays 0, and 9999 is the most.
        FootBridges ends = new FootBridges();
        ends.test(99, 0, 30, 0, 0);
        ends.test(99, 9990, 30, 9999, 9999);
        due("up to 9999", ends.breaks(4901), NONE);
        due("not up to 9999", ends.breaks(4948), 1);
        FootBridges high = new FootBridges();
        high.test(99, 1000, 1, 1048, 9999);
        due("none comes so high", high.laws(), 0);
        due("not even the one that comes highest", high.breaks(4901), 0);
        FootBridges low = new FootBridges();
        low.test(0, 1000, 1, 0, 949);
        due("none comes so low", low.laws(), 0);
        due("not even one that comes lowest", low.breaks(50), 0);
    }

    private static void leastLawFirst() {
        says("They are told as 100 p and d, the least first.");
        FootBridges x = new FootBridges();
        for (int i : new int[] {0, 1, 49, 50, 99, 100, 2449, 2450, 2499}) {
            due("law(" + i + ")", x.law(i), 100 * (i / 50) + i % 50 + 1);
        }
        FootBridges two = new FootBridges();
        two.test(0, 1000, 1, 980, 981);
        due("two dampings: law(0)", two.law(0), 19);
        due("two dampings: law(1)", two.law(1), 20);
        due("two dampings: law(2)", two.law(2), 119);
        due("two dampings: law(99)", two.law(99), 4920);
        due("two dampings: law(100)", two.law(100), NONE);
    }

    private static void rangeOfWalkers() {
        says("For n walkers (0 .. 999)");
        FootBridges x = ofDamping(20);
        x.test(99, 1000, 1, 980, 980);
        for (int n : new int[] {0, 1, 998, 999}) {
            due("sure(" + n + ")", x.sure(n), 2);
        }
        for (int n : new int[] {-1, 1000, -999, LOW, HIGH}) {
            due("sure(" + n + ")", x.sure(n), BAD);
        }
    }

    private static void sureOrMayBe() {
        says("2 SURE, if LAWS FIT and by all of them SMALL SETTLES; 1 MAY BE, if by one; 0.");
        // A DAMPING of 20: a PUSH of 49 gives 19.6 by 40 walkers, 20.09 by 41.
        FootBridges x = ofDamping(20);
        due("by all", x.sure(40), 2);
        due("by all but one", x.sure(41), 1);
        // 99 walkers of a PUSH of 48 and 49 give 47 and 48, less 20.
        x.test(99, 1000, 1, 1027, 9999);
        due("two LAWS FIT", x.laws(), 2);
        due("two: by all", x.sure(40), 2);
        due("two: by one of them", x.sure(41), 1);
        due("two: by none of them", x.sure(42), 0);
        x.test(99, 1000, 1, 1028, 9999);
        due("one LAW FITS", x.laws(), 1);
        due("one: by all", x.sure(40), 2);
        due("one: by none", x.sure(41), 0);
        x.test(0, 1000, 1, 0, 0);
        due("no LAW FITS", x.sure(0), 0);
        due("no LAW FITS", x.sure(999), 0);
        // Of all LAWS those of a DAMPING of 1 are the first not to settle: 3 walkers of 34 push 1.02.
        due("all LAWS: by all", new FootBridges().sure(2), 2);
        due("all LAWS: by some", new FootBridges().sure(3), 1);
        due("a DAMPING of 1 and a PUSH of 0 settles with all", new FootBridges().sure(999), 1);
        // A net of 0 does not settle from any SMALL; one below 0 does from any.
        FootBridges y = ofDamping(20);
        y.test(99, 1000, 1, 1028, 9999);
        for (int small : new int[] {1, 10, 9999}) {
            y.rule(1, small);
            due("from " + small + " by -1", y.sure(40), 2);
            due("from " + small + " by 0", y.sure(41), 0);
        }
    }

    private static void safeUpTo() {
        says("SAFE: the greatest n (0 .. 999) so that for 0 .. n it is SURE; NONE.");
        due("all LAWS: 3 of a PUSH of 49 are 1.47", new FootBridges().safe(), 2);
        due("a DAMPING of 50 alone", ofDamping(50).safe(), 102);
        FootBridges still = ofDamping(20);
        still.test(99, 1000, 1, 980, 980);
        due("PUSHES of 0 and 1 and a DAMPING of 20", still.safe(), 999);
        due("sure(999)", still.sure(999), 2);
        FootBridges nine = ofDamping(9);
        nine.test(99, 1000, 1, 991, 991);
        due("PUSHES of 0 and 1 and a DAMPING of 9", nine.safe(), 899);
        due("sure(899)", nine.sure(899), 2);
        due("sure(900)", nine.sure(900), 1);
        FootBridges one = ofDamping(20);
        one.test(99, 1000, 1, 1028, 1028);
        due("one LAW FITS", one.safe(), 40);
        FootBridges none = ofDamping(51);
        due("no LAW FITS", none.safe(), NONE);
    }

    private static void nextOfAll() {
        says("of all n (0 .. 99), from SMALL with k BEATS");
        FootBridges like = ofDamping(20);
        like.test(99, 1000, 1, 980, 980);
        due("PUSHES of 0 and 1, which no n parts", like.next(1), 0);
        // PUSHES of 48 and 49: 27 walkers are the first to give 12 (12.96) and 13 (13.23).
        FootBridges two = ofDamping(20);
        two.test(99, 1000, 1, 1027, 1028);
        two.rule(1, 1000);
        due("from 1000", two.next(1), 27);
        // From 1 all that settles comes to 0, all else stays: 41 walkers give 19.68 and 20.09.
        two.rule(1, 1);
        due("from 1", two.next(1), 41);
        due("from 1 with 30 BEATS", two.next(30), 41);
        // From 143 one BEAT by -8 and by -7 comes to 141, a second to 139 and 140; by -6 one comes to 142.
        two.rule(1, 143);
        due("from 143 with one BEAT", two.next(1), 29);
        due("from 143 with two BEATS", two.next(2), 27);
        // 98 walkers give each PUSH but 0 one less than itself, and 99 no more: 98 is the last to be told.
        due("the last", new FootBridges().next(1), 98);
        for (int k : new int[] {0, 31, -1, LOW, HIGH}) {
            due("next(" + k + ")", two.next(k), BAD);
        }
    }

    private static void partsBest() {
        says("that by which the SWAY that comes out parts LAWS that FIT best: "
                + "the most of them that come to one and the same SWAY are fewest");
        // One DAMPING and all PUSHES: by 50 walkers they come out in pairs at most, by fewer in threes.
        for (int damping : new int[] {1, 20, 50}) {
            FootBridges each = ofDamping(damping);
            each.rule(1, 1000);
            due("in pairs, by a DAMPING of " + damping, each.next(1), 50);
        }
        FootBridges x = ofDamping(20);
        // From 1 what settles is parted from what stays: 25 and 25 by 80 walkers.
        x.rule(1, 1);
        due("in halves", x.next(1), 80);
    }

    private static void leastNextOfLike() {
        says("of like ones the least n");
        FootBridges x = ofDamping(20);
        x.test(99, 1000, 1, 980, 980);
        x.rule(1, 9999);
        due("no n parts them", x.next(30), 0);
        // PUSHES of 1 and 2 (0.99 and 1.98 by 99): 50 walkers part them, and so do all above.
        FootBridges y = ofDamping(20);
        y.test(99, 1000, 1, 980, 981);
        y.test(50, 1000, 1, 980, 981);
        y.rule(1, 1000);
        due("PUSHES of 0, 1 and 2", y.laws(), 3);
        due("two stay alike from 50 on", y.next(1), 50);
    }

    private static void fewerThanTwo() {
        says("NONE, if fewer than two FIT");
        FootBridges x = ofDamping(20);
        x.test(99, 1000, 1, 1027, 1028);
        due("two FIT", x.laws(), 2);
        due("two FIT: next", x.next(1) == NONE ? NONE : 0, 0);
        x.test(99, 1000, 1, 1028, 1028);
        due("one FITS", x.laws(), 1);
        due("one FITS: next", x.next(1), NONE);
        x.test(99, 1000, 1, 0, 0);
        due("none FITS", x.laws(), 0);
        due("none FITS: next", x.next(1), NONE);
        due("BAD is told though none FITS", x.next(31), BAD);
    }

    // ======== promises 26 to 35

    private static void promisesOfTests() {
        newTest();
        laterOnesMoveUp();
        howManyFit();
        oneThatFits();
        endsOfThoseThatFit();
        firstThatBreaks();
        sureOrBad();
        safeOrNone();
        nextOrNone();
        counts();
    }

    private static void newTest() {
        says("A TEST: its number. BAD: n, sway, k, from .. to (0 .. 9999, from no more than to); FULL.");
        FootBridges x = new FootBridges();
        due("from is to", x.test(0, 0, 1, 0, 0), 0);
        due("from is to", x.test(0, 0, 1, 9999, 9999), 1);
        due("from is one more than to", x.test(0, 0, 1, 1, 0), BAD);
        due("from is one more than to", x.test(0, 0, 1, 9999, 9998), BAD);
        due("from is far more than to", x.test(0, 0, 1, 9999, 0), BAD);
        due("from 0 to 9999", x.test(0, 0, 1, 0, 9999), 2);
        due("from -1", x.test(0, 0, 1, -1, 9999), BAD);
        due("to 10000", x.test(0, 0, 1, 0, 10000), BAD);
        due("both above", x.test(0, 0, 1, 10000, 10000), BAD);
        due("both below", x.test(0, 0, 1, -1, -1), BAD);
        due("count(3)", x.count(3), 3);
    }

    private static void laterOnesMoveUp() {
        says("A TEST is forgotten, later ones move up: how many are left. UNKNOWN.");
        // TEST i fits a DAMPING of 20 + i alone.
        FootBridges x = new FootBridges();
        for (int i = 0; i < 4; i++) {
            x.test(0, 1000, 1, 980 - i, 980 - i);
        }
        for (int test : new int[] {-1, 4, 19, 20, LOW, HIGH}) {
            due("forget(" + test + ")", x.forget(test), UNKNOWN);
        }
        due("a DAMPING of 20 breaks at 1", x.breaks(20), 1);
        due("forget(1)", x.forget(1), 3);
        due("20 breaks at 1, which was 2", x.breaks(20), 1);
        due("22 breaks at 0", x.breaks(22), 0);
        due("forget(0)", x.forget(0), 2);
        due("22 breaks at 1, which was 3", x.breaks(22), 1);
        due("23 breaks at 0, which was 2", x.breaks(23), 0);
        due("forget(1), the last", x.forget(1), 1);
        due("22 breaks nothing", x.breaks(22), NONE);
        due("laws()", x.laws(), 50);
        due("forget(1)", x.forget(1), UNKNOWN);
        due("forget(0)", x.forget(0), 0);
        due("laws()", x.laws(), 2500);
        x.test(0, 1000, 1, 980, 980);
        x.test(99, 1000, 1, 1000, 1000);
        due("a DAMPING of 20, and by 99 walkers a net of 0", x.law(0), 2120);
        due("forget(0), others had other walkers", x.forget(0), 1);
        due("by 99 walkers a net of 0", x.law(0), 201);
        due("forget(0)", x.forget(0), 0);
        due("forget(0)", x.forget(0), UNKNOWN);
    }

    private static void howManyFit() {
        says("How many LAWS FIT.");
        FootBridges x = new FootBridges();
        due("all", x.laws(), 2500);
        x.test(0, 1000, 1, 950, 999);
        due("all, still", x.laws(), 2500);
        x.test(0, 1000, 1, 950, 998);
        due("but a DAMPING of 1", x.laws(), 2450);
        x.test(0, 1000, 1, 951, 998);
        due("but one of 50", x.laws(), 2400);
        x.test(0, 1000, 1, 975, 975);
        due("25 alone", x.laws(), 50);
        x.test(99, 1000, 1, 1023, 1023);
        due("25 and 49 alone", x.laws(), 1);
        x.test(99, 1000, 1, 1024, 1024);
        due("none", x.laws(), 0);
    }

    private static void oneThatFits() {
        says("The i-th of them; NONE.");
        FootBridges x = ofDamping(25);
        int[] numbers = {-1, 0, 1, 48, 49, 50, 2499, 2500, LOW, HIGH};
        int[] laws = {NONE, 25, 125, 4825, 4925, NONE, NONE, NONE, NONE, NONE};
        for (int i = 0; i < numbers.length; i++) {
            due("law(" + numbers[i] + ")", x.law(numbers[i]), laws[i]);
        }
        x.forget(0);
        due("law(2499)", x.law(2499), 4950);
        due("law(2500)", x.law(2500), NONE);
        due("none fits", ofDamping(51).law(0), NONE);
    }

    private static void amongIs(String what, FootBridges x, int leastPush, int mostPush, int least, int most) {
        due(what + ": least PUSH", x.among(true, false), leastPush);
        due(what + ": greatest PUSH", x.among(true, true), mostPush);
        due(what + ": least DAMPING", x.among(false, false), least);
        due(what + ": greatest DAMPING", x.among(false, true), most);
    }

    private static void endsOfThoseThatFit() {
        says("The least (most = false), the greatest PUSH (push), DAMPING of those; NONE.");
        FootBridges x = new FootBridges();
        amongIs("all", x, 0, 49, 1, 50);
        // A net of 0 by 99 walkers: 2 and 1, 3 and 2, .., 49 and 48.
        x.test(99, 1000, 1, 1000, 1000);
        amongIs("a net of 0", x, 2, 49, 1, 48);
        x.test(0, 1000, 1, 960, 970);
        amongIs("and a DAMPING of 30 to 40", x, 31, 41, 30, 40);
        x.test(0, 1000, 1, 965, 965);
        amongIs("and one of 35", x, 36, 36, 35, 35);
        x.test(0, 1000, 1, 964, 964);
        amongIs("none", x, NONE, NONE, NONE, NONE);
    }

    private static void firstThatBreaks() {
        says("The first TEST that a LAW (100 p and d) does not FIT; NONE: it FITS. BAD: there is no such LAW.");
        FootBridges x = ofDamping(20);
        x.test(99, 1000, 1, 1000, 1000);
        due("it fits", x.breaks(2120), NONE);
        due("it breaks the first", x.breaks(2221), 0);
        due("it breaks the second", x.breaks(2220), 1);
        due("it breaks both", x.breaks(1), 0);
        for (int law : new int[] {0, 51, 99, 100, 151, 4900, 4951, 4999, 5000, 5001, -1, -50, -99, -101, LOW, HIGH}) {
            due("breaks(" + law + ")", x.breaks(law), BAD);
        }
        for (int law : new int[] {1, 50, 101, 4901, 4950}) {
            due("breaks(" + law + ")", x.breaks(law), 0);
        }
    }

    private static void sureOrBad() {
        says("2 SURE, 1 MAY BE, 0. BAD: n.");
        FootBridges x = ofDamping(20);
        int[] walkers = {0, 40, 41, 999};
        int[] sure = {2, 2, 1, 1};
        for (int i = 0; i < walkers.length; i++) {
            due("sure(" + walkers[i] + ")", x.sure(walkers[i]), sure[i]);
        }
        for (int n : new int[] {-1, 1000, LOW, HIGH}) {
            due("sure(" + n + ")", x.sure(n), BAD);
            due("none fits: sure(" + n + ")", ofDamping(51).sure(n), BAD);
        }
        due("none fits: sure(0)", ofDamping(51).sure(0), 0);
        // 999 walkers of a PUSH of 49 give 489: none settles.
        x.test(99, 1000, 1, 1028, 1028);
        due("sure(999) by a PUSH of 49", x.sure(999), 0);
    }

    private static void safeOrNone() {
        says("SAFE; NONE.");
        FootBridges x = ofDamping(20);
        due("safe()", x.safe(), 40);
        due("sure(safe)", x.sure(40), 2);
        due("sure(safe + 1)", x.sure(41), 1);
        x.test(0, 1000, 1, 981, 981);
        due("none fits", x.safe(), NONE);
        x.forget(1);
        due("they fit again", x.safe(), 40);
    }

    private static void nextOrNone() {
        says("THE NEXT TEST with k BEATS (1 .. 30); NONE. BAD.");
        FootBridges x = ofDamping(20);
        x.rule(1, 1000);
        due("next(1)", x.next(1), 50);
        due("next(30) is taken", x.next(30) >= 0 ? 1 : 0, 1);
        for (int k : new int[] {0, 31, -1, LOW, HIGH}) {
            due("next(" + k + ")", x.next(k), BAD);
            due("none fits: next(" + k + ")", ofDamping(51).next(k), BAD);
        }
        due("none fits: next(1)", ofDamping(51).next(1), NONE);
        due("none fits: next(30)", ofDamping(51).next(30), NONE);
    }

    private static void counts() {
        says("0 WEIGHTS, 1 DAMPERS, 2 those that are BUILT, 3 TESTS, 4 all walkers of the CROWD, 5 all ARRIVALS. BAD.");
        FootBridges x = new FootBridges();
        x.span(5);
        for (int i = 0; i < 10; i++) {
            x.damper(1, 1, 1);
        }
        x.build(0, true);
        x.build(5, true);
        x.build(9, true);
        for (int i = 0; i < 20; i++) {
            x.test(i, 0, 1, 0, 0);
        }
        for (int sort = 0; sort < 4; sort++) {
            x.crowd(sort, 990 + sort);
        }
        for (int minute = 0; minute < 60; minute++) {
            x.arrive(minute, 99 - minute % 2);
        }
        int[] want = {5, 10, 3, 20, 3966, 5910};
        for (int what = 0; what < 6; what++) {
            due("count(" + what + ")", x.count(what), want[what]);
        }
        for (int what : new int[] {-1, 6, LOW, HIGH}) {
            due("count(" + what + ")", x.count(what), BAD);
        }
        x.span(1);
        x.build(5, false);
        x.forget(0);
        x.crowd(3, 0);
        x.arrive(0, 0);
        want = new int[] {1, 10, 2, 19, 2973, 5811};
        for (int what = 0; what < 6; what++) {
            due("fewer: count(" + what + ")", x.count(what), want[what]);
        }
    }
}
