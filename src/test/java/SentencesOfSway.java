/**
 * Each sentence of the document's part 2 and promises 8 to 16 that names a boundary, in its own words and
 * with a test of its own. What is due was worked out from the words, not taken from the class.
 */
public final class SentencesOfSway {
    private static final int UNKNOWN = -1, BAD = -2, NONE = -9;
    private static final int LOW = Integer.MIN_VALUE, HIGH = Integer.MAX_VALUE;
    private static String sentence = "";
    private static int sentences = 0;
    private static int asked = 0;
    private static int wrong = 0;

    public static void main(String[] args) {
        termsOfSway();
        promisesOfSway();
        System.out.println(sentences + " sentences, " + asked + " calls asked, " + wrong + " wrong");
        if (wrong != 0) {
            System.exit(1);
        }
    }

    private static void says(String words) {
        sentence = words;
        sentences++;
    }

    private static void due(String call, int got, int want) {
        asked++;
        if (got != want) {
            wrong++;
            System.out.println("\"" + sentence + "\": " + call + " answered " + got + ", due is " + want);
        }
    }

    // ======== terms 2: sway

    private static void termsOfSway() {
        rangeOfSway();
        rangeOfSorts();
        rangeOfPushLockStop();
        rangeOfCrowd();
        fromLockToStop();
        rangeOfDamping();
        builtDampersAdd();
        netIsCut();
        beatIsCutDown();
        beatStaysInRange();
        settlesOrRings();
        rangeOfSmall();
        fewestTooMany();
    }

    /** Every sway gets this net: pushes less a damping of 1, or the damping alone. */
    private static FootBridges ofNet(int net) {
        FootBridges x = new FootBridges();
        x.rule(0, net < 0 ? -net : 1);
        if (net >= 0) {
            x.sort(0, 50, 0, 9999);
            x.crowd(0, 2 * (net + 1));
        }
        return x;
    }

    private static void rangeOfSway() {
        says("SWAY is 0 .. 9999.");
        FootBridges x = new FootBridges();
        x.crowd(2, 8);
        for (int sway : new int[] {-1, 10000, LOW, HIGH}) {
            due("net(" + sway + ")", x.net(sway), BAD);
            due("beats(" + sway + ", 0)", x.beats(sway, 0), BAD);
            due("settles(" + sway + ")", x.settles(sway), BAD);
            due("ring(" + sway + ", 0)", x.ring(sway, 0), BAD);
            due("inStep(" + sway + ")", x.inStep(sway), BAD);
            due("test(0, " + sway + ", 1, 0, 0)", x.test(0, sway, 1, 0, 0), BAD);
        }
        for (int sway : new int[] {0, 1, 9998, 9999}) {
            due("net(" + sway + ")", x.net(sway), 99990);
            due("beats(" + sway + ", 0)", x.beats(sway, 0), sway);
            due("inStep(" + sway + ")", x.inStep(sway), 8);
            due("ring(" + sway + ", 0)", x.ring(sway, 0), NONE);
        }
        due("settles(0)", x.settles(0), 0);
        due("settles(1)", x.settles(1), 1);
        due("test(0, 0, 1, 0, 0)", x.test(0, 0, 1, 0, 0), 0);
        due("test(0, 9999, 1, 0, 9999)", x.test(0, 9999, 1, 0, 9999), 1);
    }

    private static void rangeOfSorts() {
        says("SORTS of walkers 0 .. 3");
        FootBridges x = new FootBridges();
        for (int sort = 0; sort < 4; sort++) {
            due("sort(" + sort + ", ..)", x.sort(sort, 1, 0, 9999), 0);
            due("crowd(" + sort + ", ..)", x.crowd(sort, 1), 0);
            due("tooMany(" + sort + "), 1000 with one of each ahead of it", x.tooMany(sort),
                    sort == 0 ? NONE : 1000 - sort);
        }
        for (int sort : new int[] {-1, 4, LOW, HIGH}) {
            due("sort(" + sort + ", ..)", x.sort(sort, 1, 0, 9999), UNKNOWN);
            due("crowd(" + sort + ", ..)", x.crowd(sort, 1), UNKNOWN);
            due("tooMany(" + sort + ")", x.tooMany(sort), UNKNOWN);
        }
        due("all four walk", x.inStep(5), 4);
    }

    private static void rangeOfPushLockStop() {
        says("PUSH 0 .. 99, LOCK and STOP 0 .. 9999 (0, 0, 9999 at first)");
        for (int sort = 0; sort < 4; sort++) {
            FootBridges x = new FootBridges();
            String of = "sort " + sort + ": ";
            x.crowd(sort, 5);
            due(of + "LOCK at first", x.inStep(0), 5);
            due(of + "STOP at first", x.inStep(9999), 5);
            for (int v : new int[] {-1, 100, LOW, HIGH}) {
                due(of + "PUSH " + v, x.sort(sort, v, 0, 9999), BAD);
            }
            for (int v : new int[] {-1, 10000, LOW, HIGH}) {
                due(of + "LOCK " + v, x.sort(sort, 1, v, 9999), BAD);
                due(of + "STOP " + v, x.sort(sort, 1, 0, v), BAD);
            }
            due(of + "PUSH at first", x.sort(sort, 99, 9999, 9999), 0);
            due(of + "LOCK 9999", x.inStep(9998), 0);
            due(of + "LOCK and STOP 9999", x.inStep(9999), 5);
            due(of + "PUSH 99 was taken", x.sort(sort, 0, 0, 0), 99);
            due(of + "LOCK and STOP 0", x.inStep(0), 5);
            due(of + "STOP 0", x.inStep(1), 0);
            due(of + "PUSH 0 was taken", x.sort(sort, 1, 0, 0), 0);
        }
    }

    private static void rangeOfCrowd() {
        says("a CROWD (0 .. 999 each; 0 at first)");
        FootBridges x = new FootBridges();
        for (int sort = 0; sort < 4; sort++) {
            String of = "crowd(" + sort + ", ..): ";
            for (int n : new int[] {-1, 1000, LOW, HIGH}) {
                due(of + n, x.crowd(sort, n), BAD);
            }
            due(of + "at first", x.crowd(sort, 0), 0);
            due(of + "0 was taken", x.crowd(sort, 999), 0);
            due(of + "999 was taken", x.crowd(sort, 999), 999);
        }
        due("999 of each", x.count(4), 3996);
    }

    private static void fromLockToStop() {
        says("A SORT is in STEP at a SWAY from LOCK to STOP.");
        FootBridges x = new FootBridges();
        x.crowd(1, 100);
        x.sort(1, 7, 200, 300);
        int[] sways = {199, 200, 201, 299, 300, 301};
        int[] walking = {0, 100, 100, 100, 100, 0};
        for (int i = 0; i < sways.length; i++) {
            due("inStep(" + sways[i] + ")", x.inStep(sways[i]), walking[i]);
            due("net(" + sways[i] + ")", x.net(sways[i]), 99990 + 7 * walking[i] / 100);
        }
        x.sort(1, 7, 250, 250);
        due("LOCK is STOP, below", x.inStep(249), 0);
        due("LOCK is STOP", x.inStep(250), 100);
        due("LOCK is STOP, above", x.inStep(251), 0);
        x.sort(1, 7, 251, 250);
        for (int sway : new int[] {0, 249, 250, 251, 252, 9999}) {
            due("LOCK above STOP: inStep(" + sway + ")", x.inStep(sway), 0);
            due("LOCK above STOP: net(" + sway + ")", x.net(sway), 99990);
        }
    }

    private static void rangeOfDamping() {
        says("DAMPING 1 .. 500 (10 at first)");
        FootBridges x = new FootBridges();
        due("net(0) at first", x.net(0), 99990);
        for (int v : new int[] {0, 501, -1, LOW, HIGH}) {
            due("rule(0, " + v + ")", x.rule(0, v), BAD);
        }
        due("rule(0, 1)", x.rule(0, 1), 10);
        due("net(0)", x.net(0), 99999);
        due("rule(0, 500)", x.rule(0, 500), 1);
        due("net(0)", x.net(0), 99500);
        due("rule(0, 500)", x.rule(0, 500), 500);
    }

    private static void builtDampersAdd() {
        says("and what DAMPERS that are BUILT add");
        FootBridges x = new FootBridges();
        for (int i = 0; i < 10; i++) {
            x.damper(500, 0, 0);
        }
        due("none is built", x.net(0), 99990);
        for (int i = 0; i < 10; i++) {
            x.build(i, true);
            due((i + 1) + " are built", x.net(0), 99990 - 500 * (i + 1));
        }
        x.rule(0, 500);
        due("all there can be", x.net(9999), 94500);
        for (int i = 0; i < 10; i++) {
            x.build(i, false);
        }
        due("none is built any more", x.net(0), 99500);
    }

    private static void netIsCut() {
        says("CROWD times PUSH of all SORTS in STEP, together by 100, cut; less DAMPING with DAMPERS");
        FootBridges x = new FootBridges();
        x.sort(0, 1, 0, 9999);
        int[] crowds = {0, 1, 99, 100, 101, 199, 200, 999};
        int[] nets = {0, 0, 0, 1, 1, 1, 2, 9};
        for (int i = 0; i < crowds.length; i++) {
            x.crowd(0, crowds[i]);
            due("a push of " + crowds[i], x.net(1), 99990 + nets[i]);
        }
        x.crowd(0, 99);
        x.sort(3, 1, 5, 6);
        x.crowd(3, 1);
        due("99 and 1 together", x.net(5), 99991);
        due("99, as the other has not begun", x.net(4), 99990);
        due("99, as the other has stopped", x.net(7), 99990);
        for (int sort = 0; sort < 4; sort++) {
            x.sort(sort, 99, 0, 9999);
            x.crowd(sort, 999);
        }
        x.rule(0, 1);
        due("the most there can be", x.net(0), 103955);
    }

    private static void beatIsCutDown() {
        says("(SWAY times THE NET, by 1000, cut down, also below 0)");
        FootBridges down = ofNet(-1);
        int[] sways = {1, 2, 999, 1000, 1001, 1999, 2000, 2001, 9999};
        int[] behind = {0, 1, 998, 999, 999, 1997, 1998, 1998, 9989};
        for (int i = 0; i < sways.length; i++) {
            due("by -1: beats(" + sways[i] + ", 1)", down.beats(sways[i], 1), behind[i]);
        }
        FootBridges up = ofNet(1);
        due("the net", up.net(0), 100001);
        behind = new int[] {1, 2, 999, 1001, 1002, 2000, 2002, 2003, 9999};
        for (int i = 0; i < sways.length; i++) {
            due("by 1: beats(" + sways[i] + ", 1)", up.beats(sways[i], 1), behind[i]);
        }
        due("by 0", ofNet(0).beats(9999, 1), 9999);
    }

    private static void beatStaysInRange() {
        says("0 at least, 9999 at most");
        FootBridges up = ofNet(1);
        due("up to 9998", up.beats(9989, 1), 9998);
        due("up to 9999", up.beats(9990, 1), 9999);
        due("up to 10000", up.beats(9991, 1), 9999);
        due("up from 9999", up.beats(9999, 1), 9999);
        due("up from 0", up.beats(0, 1), 0);
        FootBridges down = ofNet(-499);
        down.damper(500, 0, 0);
        down.damper(1, 0, 0);
        down.damper(500, 0, 0);
        down.build(0, true);
        due("by -999 from 1000", down.beats(1000, 1), 1);
        due("by -999 from 9999", down.beats(9999, 1), 9);
        down.build(1, true);
        due("by -1000 from 9999", down.beats(9999, 1), 0);
        down.build(2, true);
        due("by -1500 from 9999", down.beats(9999, 1), 0);
        due("by -1500 from 1", down.beats(1, 1), 0);
    }

    private static void settlesOrRings() {
        says("From a SWAY on BEATS go on for ever: it SETTLES, if it comes to 0; else it comes to a RING: "
                + "SWAYS that come again and again.");
        for (int net : new int[] {-500, -1, 0, 1}) {
            FootBridges x = ofNet(net);
            for (int sway : new int[] {0, 1, 10, 9999}) {
                boolean still = net < 0 || sway == 0;
                due(net + " from " + sway + ": settles", x.settles(sway) == NONE ? 0 : 1, still ? 1 : 0);
                due(net + " from " + sway + ": rings", x.ring(sway, 2), still ? NONE : 1);
            }
        }
        // From 3 down it settles; a sort that walks at 4 alone holds it there.
        FootBridges held = ofNet(-1);
        held.sort(0, 1, 4, 4);
        held.crowd(0, 100);
        due("below what holds it", held.settles(3), 3);
        due("at what holds it", held.settles(4), NONE);
        due("at what holds it", held.ring(4, 0), 4);
        due("above what holds it", held.ring(5, 0), 4);
        due("above what holds it", held.ring(5, 3), 1);
    }

    private static void rangeOfSmall() {
        says("SMALL: a SWAY (1 .. 9999; 10 at first)");
        FootBridges x = new FootBridges();
        due("a day at first", x.day(1, 3), 9);
        for (int v : new int[] {0, 10000, -1, LOW, HIGH}) {
            due("rule(1, " + v + ")", x.rule(1, v), BAD);
        }
        due("rule(1, 1)", x.rule(1, 1), 10);
        due("a day from 1", x.day(1, 3), 0);
        due("rule(1, 9999)", x.rule(1, 9999), 1);
        due("a day from 9999", x.day(1, 3), 9899);
        due("rule(1, 9999)", x.rule(1, 9999), 9999);
    }

    private static void fewestTooMany() {
        says("the fewest (0 .. 999) of it, others as they are, with which SMALL does not SETTLE; NONE.");
        FootBridges x = new FootBridges();
        x.sort(0, 1, 0, 9999);
        x.sort(1, 1, 0, 9999);
        due("999 push 9.99", x.tooMany(0), NONE);
        x.crowd(1, 1);
        due("999 and 1", x.tooMany(0), 999);
        x.crowd(1, 2);
        due("998 and 2", x.tooMany(0), 998);
        x.crowd(1, 999);
        due("1 and 999", x.tooMany(0), 1);
        due("those that are there do not count", x.tooMany(1), NONE);
        x.crowd(0, 999);
        due("those that are there do not count", x.tooMany(0), 1);
        x.sort(1, 2, 0, 9999);
        x.crowd(1, 500);
        due("0, as the others are enough", x.tooMany(0), 0);
        due("0 of a sort that pushes nothing", x.tooMany(2), 0);
        x.crowd(0, 0);
        x.crowd(1, 499);
        due("999 of a sort that pushes nothing", x.tooMany(2), NONE);
        FootBridges y = new FootBridges();
        y.rule(0, 1);
        y.sort(0, 1, 10, 10);
        due("as it stays at 10", y.tooMany(0), 100);
        y.rule(1, 9);
        due("below the LOCK", y.tooMany(0), NONE);
        y.rule(1, 11);
        due("it comes down to 10", y.tooMany(0), 100);
        // From 7 a net of -286 leaps over 6 and 5, where SORT 1 holds it up; one of -285 does not.
        // At 7 SORT 2 pushes 214.9: ten of SORT 0 make it 215. SORT 3 begins just above.
        FootBridges z = new FootBridges();
        z.rule(0, 500);
        z.rule(1, 7);
        z.sort(0, 1, 5, 9999);
        z.sort(1, 99, 5, 6);
        z.crowd(1, 299);
        z.sort(2, 70, 0, 9999);
        z.crowd(2, 307);
        z.sort(3, 1, 8, 9999);
        z.crowd(3, 50);
        due("between the STOP of another and the LOCK of a third", z.tooMany(0), 10);
    }

    // ======== promises 8 to 16

    private static void promisesOfSway() {
        pushWas();
        crowdWas();
        ruleWas();
        netAndMore();
        swayBehindBeats();
        beatsTillItSettles();
        ringToWhichItComes();
        tooManyOfASort();
        howManyInStep();
    }

    private static void pushWas() {
        says("PUSH, LOCK, STOP of a SORT: its PUSH as it was. UNKNOWN; BAD.");
        FootBridges x = new FootBridges();
        due("sort(2, 9, 3, 4)", x.sort(2, 9, 3, 4), 0);
        due("sort(2, 8, 3, 4)", x.sort(2, 8, 3, 4), 9);
        due("sort(1, 7, 3, 4) is another", x.sort(1, 7, 3, 4), 0);
        due("sort(4, 1, 1, 1)", x.sort(4, 1, 1, 1), UNKNOWN);
        due("sort(2, 100, 1, 1)", x.sort(2, 100, 1, 1), BAD);
        due("sort(2, 1, 10000, 1)", x.sort(2, 1, 10000, 1), BAD);
        due("sort(2, 1, 1, 10000)", x.sort(2, 1, 1, 10000), BAD);
        due("sort(2, 1, 1, 1)", x.sort(2, 1, 1, 1), 8);
    }

    private static void crowdWas() {
        says("CROWD of a SORT: what it was. UNKNOWN; BAD.");
        FootBridges x = new FootBridges();
        due("crowd(3, 999)", x.crowd(3, 999), 0);
        due("crowd(3, 0)", x.crowd(3, 0), 999);
        due("crowd(2, 5) is another", x.crowd(2, 5), 0);
        due("crowd(4, 5)", x.crowd(4, 5), UNKNOWN);
        due("crowd(3, 1000)", x.crowd(3, 1000), BAD);
        due("crowd(4, 1000)", x.crowd(4, 1000), UNKNOWN);
    }

    private static void ruleWas() {
        says("DAMPING (what = 0), SMALL (1), CARRY (2), COMFORT (3): what it was. BAD.");
        FootBridges x = new FootBridges();
        int[] first = {10, 10, 100, 100};
        for (int what = 0; what < 4; what++) {
            due("rule(" + what + ", ..) at first", x.rule(what, 20 + what), first[what]);
        }
        for (int what = 0; what < 4; what++) {
            due("rule(" + what + ", ..) as put in", x.rule(what, 50), 20 + what);
        }
        for (int what : new int[] {-1, 4, LOW, HIGH}) {
            due("rule(" + what + ", 50)", x.rule(what, 50), BAD);
        }
        due("of DAMPING 0 is BAD, though not of others", x.rule(0, 0), BAD);
        due("of SMALL 0 is BAD", x.rule(1, 0), BAD);
        due("of CARRY 0 is not", x.rule(2, 0), 50);
        due("of COMFORT 0 is not", x.rule(3, 0), 50);
        due("of DAMPING 501 is BAD", x.rule(0, 501), BAD);
        due("of SMALL 501 is not", x.rule(1, 501), 50);
        due("of CARRY 1000 is BAD", x.rule(2, 1000), BAD);
        due("of COMFORT 1000 is not", x.rule(3, 1000), 0);
    }

    private static void netAndMore() {
        says("THE NET at a SWAY, and 100000 more. BAD.");
        due("by -500", ofNet(-500).net(0), 99500);
        due("by -1", ofNet(-1).net(9999), 99999);
        due("by 0", ofNet(0).net(0), 100000);
        due("by 1", ofNet(1).net(9999), 100001);
        due("net(-1)", ofNet(1).net(-1), BAD);
        due("net(10000)", ofNet(1).net(10000), BAD);
    }

    /** From 1 to 100 it doubles (a net of 1000), above that it is halved (-500). */
    private static FootBridges doublingAndHalving() {
        FootBridges x = new FootBridges();
        x.rule(0, 500);
        x.sort(0, 99, 0, 100);
        x.sort(1, 99, 0, 100);
        x.crowd(0, 800);
        x.crowd(1, 716);
        return x;
    }

    private static void swayBehindBeats() {
        says("SWAY n BEATS (0 .. 10000) behind a SWAY. BAD.");
        FootBridges x = doublingAndHalving();
        due("a net of 1000", x.net(100), 101000);
        due("beats(60, 0)", x.beats(60, 0), 60);
        due("beats(60, 1)", x.beats(60, 1), 120);
        due("beats(60, 9999)", x.beats(60, 9999), 120);
        due("beats(60, 10000)", x.beats(60, 10000), 60);
        for (int n : new int[] {-1, 10001, LOW, HIGH}) {
            due("beats(60, " + n + ")", x.beats(60, n), BAD);
        }
        for (int sway : new int[] {-1, 10000, LOW, HIGH}) {
            due("beats(" + sway + ", 0)", x.beats(sway, 0), BAD);
        }
        due("beats(0, 10000)", x.beats(0, 10000), 0);
    }

    private static void beatsTillItSettles() {
        says("How many BEATS till it SETTLES from a SWAY; NONE: it does not. BAD.");
        FootBridges x = ofNet(-1);
        due("settles(0)", x.settles(0), 0);
        due("settles(1)", x.settles(1), 1);
        due("settles(1000)", x.settles(1000), 1000);
        due("settles(1001)", x.settles(1001), 1000);
        due("settles(1002)", x.settles(1002), 1001);
        // By tens to 8999, by nines to 8000, ..: 100, 111, 125, 143, 167, 200, 250, 333, 499, 1000.
        due("settles(9999)", x.settles(9999), 2928);
        due("settles(-1)", x.settles(-1), BAD);
        due("settles(10000)", x.settles(10000), BAD);
        due("settles(0), though all walk", ofNet(400).settles(0), 0);
        due("settles(1), though all walk", ofNet(400).settles(1), NONE);
        due("a ring of two", doublingAndHalving().settles(60), NONE);
    }

    private static void ringIs(String what, FootBridges x, int sway, int... figures) {
        for (int i = 0; i < 4; i++) {
            due(what + ": ring(" + sway + ", " + i + ")", x.ring(sway, i), figures[i]);
        }
    }

    private static void ringToWhichItComes() {
        says("its least SWAY (what = 0), greatest (1), how many SWAYS (2), "
                + "how many BEATS till the first of them (3); NONE: it SETTLES. BAD.");
        FootBridges two = doublingAndHalving();
        ringIs("in the ring", two, 60, 60, 120, 2, 0);
        ringIs("in the ring", two, 120, 60, 120, 2, 0);
        ringIs("ahead of the ring", two, 15, 60, 120, 2, 2);
        ringIs("above the ring", two, 480, 60, 120, 2, 2);
        ringIs("it settles", two, 0, NONE, NONE, NONE, NONE);
        // 489 from 0 to 100, -500 above: 10 14 20 29 43, then 36 SWAYS from 64 on.
        FootBridges many = new FootBridges();
        many.rule(0, 500);
        many.sort(0, 99, 0, 100);
        many.crowd(0, 999);
        ringIs("many SWAYS", many, 10, 50, 145, 36, 5);
        ringIs("many SWAYS, in the ring", many, 64, 50, 145, 36, 0);
        ringIs("one SWAY", ofNet(0), 9999, 9999, 9999, 1, 0);
        ringIs("one SWAY", ofNet(0), 1, 1, 1, 1, 0);
        // Up by 1 from 1000, by 2 from 2000, ..: 1000, 500, 334, 250, 200, 167, 143, 125, 111 BEATS.
        ringIs("up to 9999", ofNet(1), 1000, 9999, 9999, 1, 2830);
        FootBridges held = ofNet(-1);
        held.sort(0, 1, 4, 4);
        held.crowd(0, 100);
        ringIs("down to 4", held, 9999, 4, 4, 1, 2924);
        ringIs("below 4 it settles", held, 3, NONE, NONE, NONE, NONE);
        for (int what : new int[] {-1, 4, LOW, HIGH}) {
            due("ring(60, " + what + ")", two.ring(60, what), BAD);
            due("ring(0, " + what + "), though it settles", two.ring(0, what), BAD);
        }
        due("ring(-1, 0)", two.ring(-1, 0), BAD);
        due("ring(10000, 0)", two.ring(10000, 0), BAD);
    }

    private static void tooManyOfASort() {
        says("TOO MANY of a SORT; NONE. UNKNOWN.");
        FootBridges x = new FootBridges();
        due("of one that pushes nothing", x.tooMany(0), NONE);
        x.sort(0, 99, 0, 9999);
        due("11 of 99 are 10.89", x.tooMany(0), 11);
        x.damper(1, 0, 0);
        due("a DAMPER that is not BUILT", x.tooMany(0), 11);
        x.build(0, true);
        due("12 of 99 are 11.88", x.tooMany(0), 12);
        x.crowd(0, 500);
        due("whatever is there", x.tooMany(0), 12);
        due("it is there still", x.crowd(0, 0), 500);
        due("tooMany(-1)", x.tooMany(-1), UNKNOWN);
        due("tooMany(4)", x.tooMany(4), UNKNOWN);
    }

    private static void howManyInStep() {
        says("How many walkers of all SORTS are in STEP at a SWAY. BAD.");
        FootBridges x = new FootBridges();
        for (int sort = 0; sort < 4; sort++) {
            x.crowd(sort, 999);
        }
        due("all, though none pushes", x.inStep(0), 3996);
        x.sort(0, 1, 1, 9999);
        x.sort(3, 1, 0, 9998);
        due("one has not begun", x.inStep(0), 2997);
        due("all", x.inStep(1), 3996);
        due("all", x.inStep(9998), 3996);
        due("one has stopped", x.inStep(9999), 2997);
        due("inStep(-1)", x.inStep(-1), BAD);
        due("inStep(10000)", x.inStep(10000), BAD);
    }
}
