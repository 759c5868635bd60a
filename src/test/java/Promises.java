/** Each promise of the document by hand: ordinary inputs, the edges it names, and wrong inputs. */
public final class Promises {
    private static final int UNKNOWN = -1, BAD = -2, FULL = -4, NONE = -9;
    private static final int LOW = Integer.MIN_VALUE, HIGH = Integer.MAX_VALUE;
    private static int asked = 0;
    private static int wrong = 0;

    private static void due(String call, int got, int want) {
        asked++;
        if (got != want) {
            wrong++;
            System.out.println(call + " answered " + got + ", due is " + want);
        }
    }

    public static void main(String[] args) {
        newObject();
        span();
        weight();
        spring();
        tonesOfTwo();
        tonesOfFree();
        tonesOfFive();
        tonesThatAreNotWhole();
        sort();
        crowd();
        rule();
        net();
        beats();
        settles();
        ring();
        ringOfManySways();
        tooMany();
        tooManyInWindows();
        tooManyAtTheEdges();
        inStep();
        damper();
        build();
        cheapest();
        cheapestAnew();
        way();
        arrive();
        day();
        dayOfSway();
        gateThatKnowsLate();
        on();
        bestMark();
        test();
        laws();
        forget();
        breaks();
        sureAndSafe();
        next();
        count();
        System.out.println(asked + " calls asked, " + wrong + " wrong");
        if (wrong != 0) {
            System.exit(1);
        }
    }

    // ---- promise 1

    private static void newObject() {
        FootBridges x = new FootBridges();
        due("1 count(0)", x.count(0), 1);
        for (int what = 1; what <= 5; what++) {
            due("1 count(" + what + ")", x.count(what), 0);
        }
        due("1 tone(0)", x.tone(0), 2);
        due("1 weight(0, 1)", x.weight(0, 1), 1);
        due("1 spring(0, 1)", x.spring(0, 1), 1);
        due("1 spring(1, 1)", x.spring(1, 1), 1);
        int[] rules = {10, 10, 100, 100};
        for (int what = 0; what < 4; what++) {
            due("1 rule(" + what + ", ..)", x.rule(what, rules[what]), rules[what]);
        }
        int[] way = {4, 20, 10, 10, 999, 1};
        for (int what = 0; what < 6; what++) {
            due("1 way(" + what + ", ..)", x.way(what, way[what]), way[what]);
        }
        for (int sort = 0; sort < 4; sort++) {
            due("1 crowd(" + sort + ", 1)", x.crowd(sort, 1), 0);
        }
        due("1 inStep(0)", x.inStep(0), 4);
        due("1 inStep(9999)", x.inStep(9999), 4);
        due("1 net(0)", x.net(0), 99990);
        due("1 net(9999)", x.net(9999), 99990);
        due("1 cheapest()", x.cheapest(), 0);
        due("1 laws()", x.laws(), 2500);
        due("1 tooMany(3)", x.tooMany(3), NONE);
        for (int minute = 0; minute < 60; minute++) {
            due("1 arrive(" + minute + ", 0)", x.arrive(minute, 0), 0);
        }
        due("1 on(1, 3)", x.on(1, 3), 0);
        due("1 on(1, 4)", x.on(1, 4), UNKNOWN);
    }

    // ---- promises 2 to 7: tones

    private static void span() {
        FootBridges x = new FootBridges();
        due("2 span(5)", x.span(5), 1);
        due("2 weight(4, 9)", x.weight(4, 9), 1);
        due("2 spring(5, 0)", x.spring(5, 0), 1);
        due("2 spring(2, 7)", x.spring(2, 7), 1);
        due("2 span(0)", x.span(0), BAD);
        due("2 span(6)", x.span(6), BAD);
        due("2 span(low)", x.span(LOW), BAD);
        due("2 span(high)", x.span(HIGH), BAD);
        due("2 weight kept", x.weight(4, 9), 9);
        due("2 span(5) again", x.span(5), 5);
        due("2 weight anew", x.weight(4, 1), 1);
        due("2 end spring anew", x.spring(5, 1), 1);
        due("2 spring anew", x.spring(2, 1), 1);
        due("2 span(1)", x.span(1), 5);
        due("2 count", x.count(0), 1);
    }

    private static void weight() {
        FootBridges x = new FootBridges();
        x.span(3);
        due("3 weight(2, 9)", x.weight(2, 9), 1);
        due("3 weight(2, 4)", x.weight(2, 4), 9);
        due("3 weight(2, 0)", x.weight(2, 0), BAD);
        due("3 weight(2, 10)", x.weight(2, 10), BAD);
        due("3 weight(3, 1)", x.weight(3, 1), UNKNOWN);
        due("3 weight(-1, 1)", x.weight(-1, 1), UNKNOWN);
        due("3 unknown is told first", x.weight(3, 0), UNKNOWN);
        due("3 weight(low, 1)", x.weight(LOW, 1), UNKNOWN);
        due("3 weight(0, high)", x.weight(0, HIGH), BAD);
        due("3 weight(2, 1)", x.weight(2, 1), 4);
        due("3 weight(0, 1)", x.weight(0, 1), 1);
    }

    private static void spring() {
        FootBridges x = new FootBridges();
        x.span(2);
        due("4 spring(0, 0)", x.spring(0, 0), 1);
        due("4 spring(2, 0)", x.spring(2, 0), 1);
        due("4 spring(1, 0)", x.spring(1, 0), BAD);
        due("4 spring(1, 99)", x.spring(1, 99), 1);
        due("4 spring(1, 100)", x.spring(1, 100), BAD);
        due("4 spring(0, 100)", x.spring(0, 100), BAD);
        due("4 spring(2, -1)", x.spring(2, -1), BAD);
        due("4 spring(3, 1)", x.spring(3, 1), UNKNOWN);
        due("4 spring(-1, 1)", x.spring(-1, 1), UNKNOWN);
        due("4 unknown is told first", x.spring(3, -1), UNKNOWN);
        due("4 spring(1, 1)", x.spring(1, 1), 99);
        due("4 spring(0, 99)", x.spring(0, 99), 0);
        due("4 spring(2, 99)", x.spring(2, 99), 0);
        x.span(3);
        due("4 spring(2, 0) is between now", x.spring(2, 0), BAD);
        x.span(1);
        due("4 spring(1, 0) is at the end now", x.spring(1, 0), 1);
    }

    private static void tonesOfTwo() {
        // 2 -1 / -1 2: tones 1 and 3.
        FootBridges x = new FootBridges();
        x.span(2);
        int[] below = {0, 0, 1, 1, 2};
        for (int t = 0; t < below.length; t++) {
            due("5 below(" + t + ")", x.below(t), below[t]);
            due("7 isTone(" + t + ")", x.isTone(t), t == 1 || t == 3 ? 1 : 0);
        }
        due("5 below(400)", x.below(400), 2);
        due("5 below(-1)", x.below(-1), BAD);
        due("5 below(401)", x.below(401), BAD);
        due("6 tone(0)", x.tone(0), 1);
        due("6 tone(1)", x.tone(1), 3);
        due("6 tone(2)", x.tone(2), UNKNOWN);
        due("6 tone(-1)", x.tone(-1), UNKNOWN);
        due("6 tone(high)", x.tone(HIGH), UNKNOWN);
        due("7 isTone(400)", x.isTone(400), 0);
        due("7 isTone(401)", x.isTone(401), BAD);
        due("7 isTone(-1)", x.isTone(-1), BAD);
    }

    private static void tonesOfFree() {
        // Free at both ends: 1 -1 / -1 1: tones 0 and 2.
        FootBridges x = new FootBridges();
        x.span(2);
        x.spring(0, 0);
        x.spring(2, 0);
        due("5 below(0)", x.below(0), 0);
        due("5 below(1)", x.below(1), 1);
        due("5 below(2)", x.below(2), 1);
        due("5 below(3)", x.below(3), 2);
        due("6 tone(0)", x.tone(0), 0);
        due("6 tone(1)", x.tone(1), 2);
        due("7 isTone(0)", x.isTone(0), 1);
        due("7 isTone(2)", x.isTone(2), 1);
        due("7 isTone(1)", x.isTone(1), 0);
        // Three and free: 0, 1, 3; at t = 1 the first minor is 0 on the way.
        x.span(3);
        x.spring(0, 0);
        x.spring(3, 0);
        due("5 below(1)", x.below(1), 1);
        due("5 below(2)", x.below(2), 2);
        due("5 below(3)", x.below(3), 2);
    }

    private static void tonesOfFive() {
        // All springs 99: 198 less 198 cos(k / 6 of a half turn): 26.5, 99, 198, 297, 369.4.
        FootBridges x = new FootBridges();
        x.span(5);
        for (int i = 0; i <= 5; i++) {
            x.spring(i, 99);
        }
        int[] whole = {26, 99, 198, 297, 369};
        for (int k = 0; k < 5; k++) {
            due("6 tone(" + k + ")", x.tone(k), whole[k]);
            due("7 isTone(" + whole[k] + ")", x.isTone(whole[k]), k > 0 && k < 4 ? 1 : 0);
            due("5 below(" + whole[k] + ")", x.below(whole[k]), k);
            due("5 below one above", x.below(whole[k] + 1), k + 1);
        }
        due("5 below(400)", x.below(400), 5);
    }

    private static void tonesThatAreNotWhole() {
        FootBridges x = new FootBridges();
        x.weight(0, 9);
        due("6 two ninths", x.tone(0), 0);
        due("5 two ninths below 1", x.below(1), 1);
        due("7 two ninths are not 0", x.isTone(0), 0);
        x.spring(0, 26);
        due("6 27 ninths", x.tone(0), 3);
        due("7 27 ninths", x.isTone(3), 1);
        due("5 27 ninths", x.below(3), 0);
        x.spring(0, 25);
        due("6 26 ninths", x.tone(0), 2);
        due("7 26 ninths", x.isTone(2), 0);
        due("5 26 ninths", x.below(3), 1);
    }

    // ---- promises 8 to 16: sway

    private static void sort() {
        FootBridges x = new FootBridges();
        due("8 sort(0, 99, 10, 20)", x.sort(0, 99, 10, 20), 0);
        due("8 sort(0, 7, 10, 20)", x.sort(0, 7, 10, 20), 99);
        due("8 sort(3, 1, 0, 9999)", x.sort(3, 1, 0, 9999), 0);
        due("8 sort(4, 1, 0, 0)", x.sort(4, 1, 0, 0), UNKNOWN);
        due("8 sort(-1, 1, 0, 0)", x.sort(-1, 1, 0, 0), UNKNOWN);
        due("8 unknown is told first", x.sort(4, -1, -1, -1), UNKNOWN);
        due("8 push -1", x.sort(0, -1, 0, 0), BAD);
        due("8 push 100", x.sort(0, 100, 0, 0), BAD);
        due("8 lock -1", x.sort(0, 5, -1, 0), BAD);
        due("8 lock 10000", x.sort(0, 5, 10000, 0), BAD);
        due("8 stop -1", x.sort(0, 5, 0, -1), BAD);
        due("8 stop 10000", x.sort(0, 5, 0, 10000), BAD);
        x.crowd(0, 3);
        due("8 refused: lock as it was", x.inStep(9), 0);
        due("8 refused: stop as it was", x.inStep(20), 3);
        due("8 refused: push as it was", x.sort(0, 5, 30, 20), 7);
        due("8 lock above stop: never in step", x.inStep(25), 0);
        due("8 lock above stop: never in step", x.inStep(30), 0);
    }

    private static void crowd() {
        FootBridges x = new FootBridges();
        due("9 crowd(0, 999)", x.crowd(0, 999), 0);
        due("9 crowd(3, 1)", x.crowd(3, 1), 0);
        due("9 crowd(0, 1000)", x.crowd(0, 1000), BAD);
        due("9 crowd(0, -1)", x.crowd(0, -1), BAD);
        due("9 crowd(4, 1)", x.crowd(4, 1), UNKNOWN);
        due("9 unknown is told first", x.crowd(-1, 1000), UNKNOWN);
        due("9 crowd(0, 0)", x.crowd(0, 0), 999);
        due("9 crowd(3, 1)", x.crowd(3, 1), 1);
    }

    private static void rule() {
        FootBridges x = new FootBridges();
        int[] least = {1, 1, 0, 0};
        int[] most = {500, 9999, 999, 9999};
        int[] was = {10, 10, 100, 100};
        for (int what = 0; what < 4; what++) {
            due("10 rule below", x.rule(what, least[what] - 1), BAD);
            due("10 rule above", x.rule(what, most[what] + 1), BAD);
            due("10 rule least", x.rule(what, least[what]), was[what]);
            due("10 rule most", x.rule(what, most[what]), least[what]);
            due("10 rule was most", x.rule(what, most[what]), most[what]);
        }
        due("10 rule(-1, 1)", x.rule(-1, 1), BAD);
        due("10 rule(4, 1)", x.rule(4, 1), BAD);
        due("10 rule(high, 1)", x.rule(HIGH, 1), BAD);
        due("10 damping is used", x.net(0), 99500);
    }

    private static void net() {
        FootBridges x = new FootBridges();
        x.sort(0, 33, 0, 50);
        x.crowd(0, 3);
        due("11 99 by 100", x.net(50), 99990);
        x.sort(1, 1, 50, 60);
        x.crowd(1, 1);
        due("11 together by 100", x.net(50), 99991);
        due("11 below the lock of one", x.net(49), 99990);
        due("11 above the stop of one", x.net(51), 99990);
        x.damper(5, 0, 0);
        due("11 not built", x.net(50), 99991);
        x.build(0, true);
        due("11 built", x.net(50), 99986);
        due("11 net(-1)", x.net(-1), BAD);
        due("11 net(10000)", x.net(10000), BAD);
        for (int sort = 0; sort < 4; sort++) {
            x.sort(sort, 99, 0, 9999);
            x.crowd(sort, 999);
        }
        due("11 the greatest", x.net(9999), 100000 + 3956 - 15);
    }

    private static void beats() {
        FootBridges x = new FootBridges();
        x.rule(0, 1);
        due("12 no beat", x.beats(1500, 0), 1500);
        due("12 cut down below 0", x.beats(1500, 1), 1498);
        due("12 two beats", x.beats(1500, 2), 1496);
        due("12 ten thousand beats", x.beats(9999, 10000), 0);
        due("12 beats(0, 5)", x.beats(0, 5), 0);
        x.sort(0, 50, 0, 9999);
        x.crowd(0, 4);
        due("12 cut down above 0", x.beats(1500, 1), 1501);
        x.crowd(0, 999);
        due("12 9999 at most", x.beats(9000, 1), 9999);
        due("12 9999 at most", x.beats(9999, 3), 9999);
        x.crowd(0, 0);
        x.rule(0, 500);
        x.damper(500, 0, 0);
        x.damper(500, 0, 0);
        x.build(0, true);
        x.build(1, true);
        due("12 0 at least", x.beats(9999, 1), 0);
        due("12 beats(-1, 1)", x.beats(-1, 1), BAD);
        due("12 beats(10000, 1)", x.beats(10000, 1), BAD);
        due("12 beats(1, -1)", x.beats(1, -1), BAD);
        due("12 beats(1, 10001)", x.beats(1, 10001), BAD);
    }

    private static void settles() {
        FootBridges x = new FootBridges();
        x.rule(0, 1);
        due("13 settles(0)", x.settles(0), 0);
        due("13 settles(1)", x.settles(1), 1);
        due("13 settles(1000)", x.settles(1000), 1000);
        due("13 settles(1001)", x.settles(1001), 1000);
        due("13 settles(-1)", x.settles(-1), BAD);
        due("13 settles(10000)", x.settles(10000), BAD);
        x.sort(0, 50, 5, 7);
        x.crowd(0, 2);
        due("13 a net of 0 on the way", x.settles(1000), NONE);
        due("13 below that", x.settles(4), 4);
        x.damper(1, 0, 0);
        x.build(0, true);
        due("13 with a damper", x.settles(4), 4);
        due("13 with a damper", x.settles(7), 7);
    }

    /** A net of 1000 from 0 to 100, of -500 above: what doubles is halved. */
    private static FootBridges doubling() {
        FootBridges x = new FootBridges();
        x.rule(0, 500);
        x.sort(0, 75, 0, 100);
        x.sort(1, 75, 0, 100);
        x.sort(2, 50, 0, 100);
        x.crowd(0, 999);
        x.crowd(1, 999);
        x.crowd(2, 3);
        return x;
    }

    private static void ringIs(FootBridges x, int sway, int least, int greatest, int size, int ahead) {
        due("14 ring(" + sway + ", 0)", x.ring(sway, 0), least);
        due("14 ring(" + sway + ", 1)", x.ring(sway, 1), greatest);
        due("14 ring(" + sway + ", 2)", x.ring(sway, 2), size);
        due("14 ring(" + sway + ", 3)", x.ring(sway, 3), ahead);
    }

    private static void ring() {
        FootBridges x = doubling();
        due("14 the net", x.net(100), 101000);
        ringIs(x, 60, 60, 120, 2, 0);
        ringIs(x, 30, 60, 120, 2, 1);
        ringIs(x, 240, 60, 120, 2, 1);
        ringIs(x, 101, 100, 200, 2, 2);
        due("14 ring(0, 0)", x.ring(0, 0), NONE);
        due("14 ring(0, 3)", x.ring(0, 3), NONE);
        due("14 ring(60, 4)", x.ring(60, 4), BAD);
        due("14 ring(60, -1)", x.ring(60, -1), BAD);
        due("14 ring(-1, 0)", x.ring(-1, 0), BAD);
        due("14 ring(10000, 0)", x.ring(10000, 0), BAD);
        x.crowd(0, 0);
        x.crowd(1, 0);
        due("14 it settles", x.ring(60, 2), NONE);
        due("14 bad is told though it settles", x.ring(60, 4), BAD);
    }

    private static void ringOfManySways() {
        // 489 from 0 to 100, -500 above: 10 14 20 29 43, then 36 sways from 64 on.
        FootBridges x = new FootBridges();
        x.rule(0, 500);
        x.sort(0, 99, 0, 100);
        x.crowd(0, 999);
        ringIs(x, 10, 50, 145, 36, 5);
        ringIs(x, 64, 50, 145, 36, 0);
        due("12 into the ring", x.beats(10, 5), 64);
        due("12 once round", x.beats(10, 41), 64);
        due("13 it does not settle", x.settles(10), NONE);
    }

    private static void tooMany() {
        FootBridges x = new FootBridges();
        x.sort(0, 99, 10, 10);
        due("15 990 by 100 is too little", x.tooMany(0), 11);
        x.sort(0, 1, 0, 9999);
        due("15 push 1 never reaches 10", x.tooMany(0), NONE);
        x.rule(0, 9);
        due("15 900", x.tooMany(0), 900);
        x.sort(1, 50, 0, 9999);
        x.crowd(1, 1);
        due("15 others as they are", x.tooMany(0), 850);
        due("15 of the other", x.tooMany(1), 18);
        due("15 push 0", x.tooMany(2), NONE);
        x.crowd(1, 18);
        due("15 none is too many", x.tooMany(0), 0);
        due("15 push 0, none is too many", x.tooMany(2), 0);
        due("15 tooMany(4)", x.tooMany(4), UNKNOWN);
        due("15 tooMany(-1)", x.tooMany(-1), UNKNOWN);
        x.crowd(0, 77);
        x.tooMany(0);
        due("15 the crowd is as it was", x.crowd(0, 0), 77);
        x.crowd(1, 1);
        x.damper(1, 0, 0);
        x.build(0, true);
        due("15 with a damper", x.tooMany(0), 950);
    }

    private static void tooManyInWindows() {
        FootBridges x = new FootBridges();
        x.rule(0, 1);
        x.sort(0, 1, 5, 7);
        due("15 on its way down", x.tooMany(0), 100);
        x.sort(1, 50, 6, 6);
        x.crowd(1, 1);
        due("15 where another helps", x.tooMany(0), 50);
        x.sort(1, 50, 8, 9);
        due("15 where another does not", x.tooMany(0), 100);
        x.rule(1, 4);
        due("15 small below the lock", x.tooMany(0), NONE);
        x.rule(1, 10);
        x.rule(0, 500);
        x.sort(0, 99, 6, 9);
        due("15 it leaps over", x.tooMany(0), NONE);
    }

    private static void tooManyAtTheEdges() {
        FootBridges x = new FootBridges();
        x.sort(0, 1, 0, 9999);
        x.sort(1, 1, 0, 9999);
        x.crowd(1, 1);
        due("15 the last there can be", x.tooMany(0), 999);
        // From 7 a net of -286 leaps over 6 and 5, where another holds it up; one of -285 does not.
        FootBridges y = new FootBridges();
        y.rule(0, 500);
        y.rule(1, 7);
        y.sort(0, 1, 5, 7);
        y.sort(1, 99, 5, 6);
        y.crowd(1, 299);
        y.sort(2, 99, 0, 9999);
        y.crowd(2, 217);
        y.sort(3, 12, 0, 9999);
        y.crowd(3, 1);
        due("15 above the stop of another", y.tooMany(0), 5);
    }

    private static void inStep() {
        FootBridges x = new FootBridges();
        x.sort(0, 0, 10, 20);
        x.sort(1, 5, 20, 30);
        x.sort(2, 5, 15, 15);
        x.sort(3, 5, 9999, 9999);
        for (int sort = 0; sort < 4; sort++) {
            x.crowd(sort, 1 << sort);
        }
        int[] sways = {0, 9, 10, 14, 15, 16, 20, 21, 30, 31, 9998, 9999};
        int[] want = {0, 0, 1, 1, 5, 1, 3, 2, 2, 0, 0, 8};
        for (int i = 0; i < sways.length; i++) {
            due("16 inStep(" + sways[i] + ")", x.inStep(sways[i]), want[i]);
        }
        due("16 inStep(-1)", x.inStep(-1), BAD);
        due("16 inStep(10000)", x.inStep(10000), BAD);
    }

    // ---- promises 17 to 20: dampers

    private static void damper() {
        FootBridges x = new FootBridges();
        due("17 add 0", x.damper(0, 0, 0), BAD);
        due("17 add 501", x.damper(501, 0, 0), BAD);
        due("17 price -1", x.damper(1, -1, 0), BAD);
        due("17 price 10000", x.damper(1, 10000, 0), BAD);
        due("17 load -1", x.damper(1, 0, -1), BAD);
        due("17 load 100", x.damper(1, 0, 100), BAD);
        due("17 none yet", x.count(1), 0);
        for (int i = 0; i < 10; i++) {
            due("17 damper " + i, x.damper(i % 2 == 0 ? 1 : 500, i % 2 == 0 ? 0 : 9999, i % 2 == 0 ? 0 : 99), i);
        }
        due("17 full", x.damper(1, 0, 0), FULL);
        due("17 bad is told first", x.damper(0, 0, 0), BAD);
        due("17 ten", x.count(1), 10);
        due("17 not built", x.count(2), 0);
        due("17 not built", x.net(0), 99990);
    }

    private static void build() {
        FootBridges x = new FootBridges();
        due("18 none there", x.build(0, true), UNKNOWN);
        x.damper(3, 0, 0);
        x.damper(4, 0, 0);
        due("18 build(1, true)", x.build(1, true), 0);
        due("18 build(1, true)", x.build(1, true), 1);
        due("18 the net", x.net(0), 99986);
        due("18 build(0, true)", x.build(0, true), 0);
        due("18 the net", x.net(0), 99983);
        due("18 build(1, false)", x.build(1, false), 1);
        due("18 build(1, false)", x.build(1, false), 0);
        due("18 the net", x.net(0), 99987);
        due("18 build(2, true)", x.build(2, true), UNKNOWN);
        due("18 build(-1, true)", x.build(-1, true), UNKNOWN);
    }

    /** A net of 10 everywhere: dampers of 11 together make it settle. */
    private static FootBridges ofNetTen() {
        FootBridges x = new FootBridges();
        x.sort(0, 50, 0, 9999);
        x.crowd(0, 40);
        return x;
    }

    private static void cheapest() {
        FootBridges x = ofNetTen();
        due("19 no damper", x.cheapest(), NONE);
        due("20 no damper", x.bought(0), NONE);
        x.damper(5, 3, 50);
        x.damper(6, 3, 50);
        due("19 two together", x.cheapest(), 6);
        due("20 the first", x.bought(0), 0);
        due("20 the second", x.bought(1), 1);
        due("20 no third", x.bought(2), NONE);
        due("20 bought(-1)", x.bought(-1), NONE);
        due("20 bought(low)", x.bought(LOW), NONE);
        due("20 bought(high)", x.bought(HIGH), NONE);
        x.rule(2, 99);
        due("19 too heavy", x.cheapest(), NONE);
        due("20 too heavy", x.bought(0), NONE);
        x.rule(2, 100);
        x.damper(11, 6, 10);
        x.damper(11, 6, 20);
        due("19 of like price", x.cheapest(), 6);
        due("20 the fewest, of those the first", x.bought(0), 2);
        due("20 one alone", x.bought(1), NONE);
        x.damper(11, 5, 99);
        due("19 cheaper", x.cheapest(), 5);
        due("20 cheaper", x.bought(0), 4);

        FootBridges y = ofNetTen();
        for (int add = 4; add <= 7; add++) {
            y.damper(add, 1, 0);
        }
        due("19 pairs", y.cheapest(), 2);
        due("20 0 and 3 are ahead of 1 and 2", y.bought(0), 0);
        due("20 0 and 3 are ahead of 1 and 2", y.bought(1), 3);
        y.damper(1, 0, 0);
        due("19 one for nothing makes no pair cheaper", y.cheapest(), 2);
        due("20 and is not taken along", y.bought(2), NONE);

        // 3956 less 500: six dampers of 500 are too few, seven are enough.
        FootBridges z = new FootBridges();
        z.rule(0, 500);
        for (int sort = 0; sort < 4; sort++) {
            z.sort(sort, 99, 0, 9999);
            z.crowd(sort, 999);
        }
        for (int i = 0; i < 10; i++) {
            z.damper(500, 9999, 10);
        }
        due("19 seven of ten", z.cheapest(), 7 * 9999);
        due("20 the seventh", z.bought(6), 6);
        due("20 no eighth", z.bought(7), NONE);
        z.rule(2, 69);
        due("19 seven are too heavy", z.cheapest(), NONE);
    }

    private static void cheapestAnew() {
        FootBridges x = ofNetTen();
        x.damper(10, 7, 0);
        due("19 a net of 0", x.cheapest(), NONE);
        x.build(0, true);
        due("19 what is built does not count", x.cheapest(), NONE);
        x.damper(1, 1, 0);
        due("19 behind damper", x.cheapest(), 8);
        x.crowd(0, 39);
        due("19 19 less 10: 10 is enough", x.cheapest(), 7);
        due("20 behind crowd", x.bought(1), NONE);
        x.sort(0, 52, 0, 9999);
        due("19 behind sort", x.cheapest(), 8);
        x.rule(0, 11);
        due("19 behind rule", x.cheapest(), 7);
        x.sort(0, 52, 20, 9999);
        due("19 not in step: nothing is needed", x.cheapest(), 0);
        due("20 nothing is needed", x.bought(0), NONE);
        x.rule(1, 9999);
        due("19 small is above the lock", x.cheapest(), 7);
        x.rule(2, 0);
        due("19 loads of 0", x.cheapest(), 7);
    }

    // ---- promises 21 to 25: people

    private static void way() {
        FootBridges x = new FootBridges();
        int[] least = {1, 1, 1, 0, 0, 0};
        int[] most = {8, 99, 99, 99, 999, 9};
        int[] was = {4, 20, 10, 10, 999, 1};
        for (int what = 0; what < 6; what++) {
            due("21 way below", x.way(what, least[what] - 1), BAD);
            due("21 way above", x.way(what, most[what] + 1), BAD);
            due("21 way least", x.way(what, least[what]), was[what]);
            due("21 way most", x.way(what, most[what]), least[what]);
            due("21 way was most", x.way(what, most[what]), most[what]);
        }
        due("21 way(-1, 1)", x.way(-1, 1), BAD);
        due("21 way(6, 1)", x.way(6, 1), BAD);
        due("21 way(low, 1)", x.way(LOW, 1), BAD);
    }

    private static void arrive() {
        FootBridges x = new FootBridges();
        due("22 arrive(0, 99)", x.arrive(0, 99), 0);
        due("22 arrive(59, 5)", x.arrive(59, 5), 0);
        due("22 arrive(0, 100)", x.arrive(0, 100), BAD);
        due("22 arrive(0, -1)", x.arrive(0, -1), BAD);
        due("22 arrive(60, 1)", x.arrive(60, 1), BAD);
        due("22 arrive(-1, 1)", x.arrive(-1, 1), BAD);
        due("22 arrive(0, 0)", x.arrive(0, 0), 99);
        due("22 in the last minute", x.day(60, 1), 5);
        due("22 not ahead of it", x.day(59, 1), 0);
    }

    /** One piece for five, two go on and three are let in a minute; nine come at first. */
    private static FootBridges shortWay() {
        FootBridges x = new FootBridges();
        x.way(0, 1);
        x.way(1, 5);
        x.way(2, 2);
        x.way(3, 3);
        x.arrive(0, 9);
        return x;
    }

    private static void day() {
        FootBridges x = shortWay();
        int[] over = {0, 2, 4, 6, 8, 9};
        int[] on = {3, 4, 5, 3, 1, 0};
        int[] queue = {6, 3, 0, 0, 0, 0};
        int[] mostOn = {3, 4, 5, 5, 5, 5};
        for (int m = 1; m <= 6; m++) {
            due("23 day(" + m + ", 0)", x.day(m, 0), over[m - 1]);
            due("23 day(" + m + ", 1)", x.day(m, 1), on[m - 1]);
            due("23 day(" + m + ", 2)", x.day(m, 2), queue[m - 1]);
            due("23 day(" + m + ", 3)", x.day(m, 3), 10 - m);
            due("23 day(" + m + ", 4)", x.day(m, 4), 9);
            due("23 day(" + m + ", 5)", x.day(m, 5), mostOn[m - 1]);
        }
        x.way(3, 9);
        due("23 no more than the piece holds", x.day(1, 1), 5);
        due("23 no more than the piece holds", x.day(1, 2), 4);
        due("23 day(60, 0)", x.day(60, 0), 9);
        due("23 day(0, 0)", x.day(0, 0), BAD);
        due("23 day(61, 0)", x.day(61, 0), BAD);
        due("23 day(1, -1)", x.day(1, -1), BAD);
        due("23 day(1, 6)", x.day(1, 6), BAD);
        due("23 day(low, high)", x.day(LOW, HIGH), BAD);
        due("23 nobody comes", new FootBridges().day(60, 5), 0);
    }

    private static void dayOfSway() {
        FootBridges x = shortWay();
        x.crowd(0, 999);
        x.crowd(1, 999);
        x.sort(1, 99, 0, 9999);
        due("23 the crowd is not on the bridge", x.day(1, 3), 9);
        x.damper(500, 0, 0);
        x.damper(500, 0, 0);
        x.build(0, true);
        x.build(1, true);
        due("23 dampers that are built", x.day(1, 3), 0);
        due("23 no sway behind any beat", x.day(1, 4), 0);
        x.build(0, false);
        x.build(1, false);
        x.rule(0, 1);
        x.rule(1, 1000);
        x.sort(0, 99, 0, 9999);
        int[] sway = {1001, 1003, 1006, 1007, 1005, 1003};
        int[] greatest = {1001, 1003, 1006, 1007, 1007, 1007};
        for (int m = 1; m <= 6; m++) {
            due("23 day(" + m + ", 3)", x.day(m, 3), sway[m - 1]);
            due("23 day(" + m + ", 4)", x.day(m, 4), greatest[m - 1]);
        }
        x.sort(0, 99, 1002, 9999);
        due("23 below the lock", x.day(6, 4), 999);
        FootBridges y = new FootBridges();
        y.rule(1, 1000);
        y.sort(0, 50, 0, 9999);
        y.way(3, 20);
        y.arrive(0, 20);
        due("23 1000 by 100 less 10", y.day(1, 3), 1000);
    }

    private static void gateThatKnowsLate() {
        FootBridges x = shortWay();
        x.way(4, 2);
        int[][] on = {{3, 4, 2, 3, 1, 0}, {3, 1, 3, 1, 3, 1}, {3, 4, 2, 0, 0, 3}};
        for (int late = 0; late < on.length; late++) {
            x.way(5, late);
            for (int m = 1; m <= 6; m++) {
                due("23 late " + late + ": day(" + m + ", 1)", x.day(m, 1), on[late][m - 1]);
            }
        }
        x.way(4, 0);
        x.way(5, 9);
        due("23 mark 0 lets nobody in", x.day(60, 2), 9);
    }

    private static void on() {
        FootBridges x = new FootBridges();
        x.way(0, 3);
        x.way(1, 5);
        x.way(2, 2);
        x.way(3, 4);
        x.arrive(0, 9);
        // Minute by minute: 4 0 0, 5 2 0 (three have room), 5 2 2 (two have room), then none wait.
        int[][] want = {{4, 0, 0}, {5, 2, 0}, {5, 2, 2}, {3, 2, 2}, {1, 2, 2}, {0, 1, 2}, {0, 0, 1}, {0, 0, 0}};
        for (int m = 1; m <= want.length; m++) {
            for (int piece = 0; piece < 3; piece++) {
                due("24 on(" + m + ", " + piece + ")", x.on(m, piece), want[m - 1][piece]);
            }
        }
        due("24 on(1, 3)", x.on(1, 3), UNKNOWN);
        due("24 on(1, -1)", x.on(1, -1), UNKNOWN);
        due("24 on(0, 0)", x.on(0, 0), BAD);
        due("24 on(61, 0)", x.on(61, 0), BAD);
        due("24 bad is told first", x.on(0, 3), BAD);
        x.way(0, 8);
        due("24 on(8, 7)", x.on(8, 7), 2);
        due("24 on(7, 7)", x.on(7, 7), 0);
        FootBridges y = new FootBridges();
        y.way(0, 2);
        y.way(1, 5);
        y.way(2, 1);
        y.arrive(0, 20);
        due("24 as piece 0 has room", y.on(2, 0), 5);
        due("24 one goes on", y.on(2, 1), 1);
        due("24 one goes on, one is over", y.on(3, 1), 1);
    }

    private static void bestMark() {
        FootBridges x = shortWay();
        x.rule(0, 1);
        x.rule(1, 1000);
        x.sort(0, 99, 0, 9999);
        x.way(4, 7);
        // Over in six minutes, and the greatest sway: mark 0: 0, 999; 1: 6, 1001; 2 and 3: 8, 1001;
        // 4: 9, 1004; above: 9, 1007.
        int[] comfort = {9999, 1007, 1006, 1004, 1003, 1001, 1000, 999, 998, 0};
        int[] want = {4, 4, 4, 4, 2, 2, 0, 0, NONE, NONE};
        for (int i = 0; i < comfort.length; i++) {
            x.rule(3, comfort[i]);
            due("25 comfort " + comfort[i] + ": bestMark(6)", x.bestMark(6), want[i]);
        }
        x.rule(3, 9999);
        due("25 nobody is over yet", x.bestMark(1), 0);
        due("25 bestMark(2)", x.bestMark(2), 1);
        due("25 bestMark(0)", x.bestMark(0), BAD);
        due("25 bestMark(61)", x.bestMark(61), BAD);
        due("25 the mark is as it was", x.way(4, 7), 7);

        // 99 come in at once and stay for 8 minutes: a mark above 198 lets in three times 99, and
        // one above 297, which would let in more, is not asked for.
        FootBridges y = new FootBridges();
        y.way(0, 8);
        y.way(1, 99);
        y.way(2, 99);
        y.way(3, 99);
        for (int minute = 0; minute < 60; minute++) {
            y.arrive(minute, 99);
        }
        due("25 200 at most", y.bestMark(60), 199);
        // Three loads come in, the last of one or two; the fourth is over in time if it need not wait.
        for (int minute = 4; minute < 60; minute++) {
            y.arrive(minute, 0);
        }
        y.arrive(2, 1);
        due("25 200 itself", y.bestMark(12), 200);
        y.arrive(2, 2);
        due("25 201 is none", y.bestMark(12), 199);
    }

    // ---- promises 26 to 34: tests

    private static void test() {
        FootBridges x = new FootBridges();
        due("26 n -1", x.test(-1, 0, 1, 0, 0), BAD);
        due("26 n 100", x.test(100, 0, 1, 0, 0), BAD);
        due("26 sway -1", x.test(0, -1, 1, 0, 0), BAD);
        due("26 sway 10000", x.test(0, 10000, 1, 0, 0), BAD);
        due("26 k 0", x.test(0, 0, 0, 0, 0), BAD);
        due("26 k 31", x.test(0, 0, 31, 0, 0), BAD);
        due("26 from -1", x.test(0, 0, 1, -1, 0), BAD);
        due("26 from 10000", x.test(0, 0, 1, 10000, 10000), BAD);
        due("26 to 10000", x.test(0, 0, 1, 0, 10000), BAD);
        due("26 to -1", x.test(0, 0, 1, 0, -1), BAD);
        due("26 from above to", x.test(0, 0, 1, 5, 4), BAD);
        due("26 none yet", x.count(3), 0);
        for (int i = 0; i < 20; i++) {
            due("26 test " + i, x.test(99 * (i % 2), 9999, i % 2 == 0 ? 1 : 30, 0, 9999), i);
        }
        due("26 full", x.test(0, 0, 1, 0, 0), FULL);
        due("26 bad is told first", x.test(0, 0, 1, 5, 4), BAD);
        due("26 they say nothing", x.laws(), 2500);
        due("26 one goes", x.forget(19), 19);
        due("26 one comes", x.test(0, 0, 30, 0, 0), 19);
        due("26 0 stays 0", x.laws(), 2500);
        x.forget(0);
        x.test(5, 0, 1, 1, 9999);
        due("26 0 comes to nothing else", x.laws(), 0);
    }

    private static void laws() {
        FootBridges x = new FootBridges();
        due("29 law(0)", x.law(0), 1);
        due("29 law(49)", x.law(49), 50);
        due("29 law(50)", x.law(50), 101);
        due("29 law(2499)", x.law(2499), 4950);
        due("29 law(2500)", x.law(2500), NONE);
        due("29 law(-1)", x.law(-1), NONE);
        due("30 least push", x.among(true, false), 0);
        due("30 greatest push", x.among(true, true), 49);
        due("30 least damping", x.among(false, false), 1);
        due("30 greatest damping", x.among(false, true), 50);
        x.test(0, 1000, 1, 980, 980);
        due("28 damping 20", x.laws(), 50);
        due("29 law(0)", x.law(0), 20);
        due("29 law(1)", x.law(1), 120);
        due("29 law(49)", x.law(49), 4920);
        due("29 law(50)", x.law(50), NONE);
        due("30 least damping", x.among(false, false), 20);
        due("30 greatest damping", x.among(false, true), 20);
        x.test(99, 1000, 1, 1000, 1000);
        due("28 push 21", x.laws(), 1);
        due("29 push 21", x.law(0), 2120);
        due("30 least push", x.among(true, false), 21);
        due("30 greatest push", x.among(true, true), 21);
        x.test(0, 1000, 1, 1000, 1000);
        due("28 nothing is that still", x.laws(), 0);
        due("29 none", x.law(0), NONE);
        due("30 none", x.among(true, false), NONE);
        due("30 none", x.among(false, true), NONE);
        // With its ends: 978 .. 981 are dampings 19 .. 22.
        FootBridges y = new FootBridges();
        y.test(0, 1000, 1, 978, 981);
        due("28 both ends", y.laws(), 200);
        due("30 least damping", y.among(false, false), 19);
        due("30 greatest damping", y.among(false, true), 22);
        // Two beats of -20: 1000, 980, 960 (19.6 is cut down to 20); of -21: 979, 958.
        FootBridges z = new FootBridges();
        z.test(0, 1000, 2, 960, 960);
        due("28 two beats", z.laws(), 50);
        due("29 two beats", z.law(0), 20);
        FootBridges high = new FootBridges();
        high.test(99, 1000, 1, 5000, 5000);
        due("28 none comes so high", high.laws(), 0);
        FootBridges low = new FootBridges();
        low.test(0, 1000, 1, 0, 0);
        due("28 none comes so low", low.laws(), 0);
        FootBridges ends = new FootBridges();
        ends.test(99, 1000, 1, 1047, 9999);
        due("28 the greatest net", ends.laws(), 1);
        due("29 the greatest net", ends.law(0), 4901);
    }

    private static void forget() {
        FootBridges x = new FootBridges();
        due("27 none there", x.forget(0), UNKNOWN);
        x.test(0, 1000, 1, 980, 980);
        x.test(99, 1000, 1, 1000, 1000);
        due("27 forget(2)", x.forget(2), UNKNOWN);
        due("27 forget(-1)", x.forget(-1), UNKNOWN);
        due("27 refused: both fit", x.laws(), 1);
        due("27 breaks ahead", x.breaks(2020), 1);
        due("27 forget(0)", x.forget(0), 1);
        due("27 moved up", x.breaks(2020), 0);
        due("27 a net of 0 by 99", x.laws(), 48);
        due("27 the first", x.law(0), 201);
        due("27 the last", x.law(47), 4948);
        due("27 forget(0)", x.forget(0), 0);
        due("27 all again", x.laws(), 2500);
        due("27 forget(0)", x.forget(0), UNKNOWN);
    }

    private static void breaks() {
        FootBridges x = new FootBridges();
        due("31 no test", x.breaks(1), NONE);
        due("31 no test", x.breaks(4950), NONE);
        int[] none = {0, 51, 99, 100, 151, 4900, 4951, 5000, 5001, -1, -50, -101, LOW, HIGH};
        for (int law : none) {
            due("31 no such law: " + law, x.breaks(law), BAD);
        }
        x.test(0, 1000, 1, 980, 980);
        x.test(99, 1000, 1, 1000, 1000);
        due("31 breaks(2120)", x.breaks(2120), NONE);
        due("31 breaks(2119)", x.breaks(2119), 0);
        due("31 breaks(2020)", x.breaks(2020), 1);
        due("31 the first of both", x.breaks(1), 0);
    }

    private static void sureAndSafe() {
        FootBridges x = new FootBridges();
        due("33 1 by 49 and damping 1", x.safe(), 2);
        due("32 sure(2)", x.sure(2), 2);
        due("32 sure(3)", x.sure(3), 1);
        x.test(0, 1000, 1, 980, 980);
        due("33 damping 20", x.safe(), 40);
        due("32 sure(0)", x.sure(0), 2);
        due("32 sure(40)", x.sure(40), 2);
        due("32 sure(41)", x.sure(41), 1);
        due("32 push 0 settles with all", x.sure(999), 1);
        due("32 sure(-1)", x.sure(-1), BAD);
        due("32 sure(1000)", x.sure(1000), BAD);
        x.test(99, 1000, 1, 1000, 1000);
        due("33 push 21", x.safe(), 95);
        due("32 sure(95)", x.sure(95), 2);
        due("32 not by one", x.sure(96), 0);
        x.test(0, 1000, 1, 0, 0);
        due("32 no law", x.sure(0), 0);
        due("33 no law", x.safe(), NONE);
        due("32 bad without a law", x.sure(1000), BAD);
        // Push 0 alone: 99 walkers change nothing, and damping is 20.
        FootBridges y = new FootBridges();
        y.test(0, 1000, 1, 980, 980);
        y.test(99, 1000, 1, 980, 980);
        due("28 push 0 and 1", y.laws(), 2);
        due("33 all there can be", y.safe(), 999);
        due("32 sure(999)", y.sure(999), 2);
        FootBridges z = new FootBridges();
        z.test(0, 1000, 1, 999, 999);
        z.test(99, 1000, 1, 999, 999);
        due("28 push 0 and 1, damping 1", z.laws(), 2);
        due("33 push 1 and damping 1", z.safe(), 99);
    }

    private static void next() {
        FootBridges x = new FootBridges();
        // From 10 it comes to 9 or stays; most laws settle, and by 98 walkers fewest of them.
        due("34 all laws", x.next(1), 98);
        // From 5000 each net comes out by itself; whatever n is, fifty laws come to a net of -1.
        x.rule(1, 5000);
        due("34 all laws, from 5000", x.next(1), 0);
        x.test(0, 1000, 1, 980, 980);
        x.rule(1, 1000);
        // By 50 walkers pushes come out in pairs; by 49 the pushes 0, 1 and 2 come out alike.
        due("34 next(1)", x.next(1), 50);
        due("34 next(0)", x.next(0), BAD);
        due("34 next(31)", x.next(31), BAD);
        x.rule(1, 1);
        // From 1 a net below 0 comes to 0, others stay: by 80 .. 83 walkers pushes from 25 on stay.
        due("34 from 1", x.next(1), 80);
        due("34 as in thirty beats", x.next(30), 80);
        x.test(99, 1000, 1, 1000, 1000);
        due("34 one law", x.next(1), NONE);
        due("34 bad with one law", x.next(31), BAD);
        x.test(0, 1000, 1, 0, 0);
        due("34 no law", x.next(5), NONE);
        FootBridges y = new FootBridges();
        y.test(0, 1000, 1, 980, 980);
        y.test(99, 1000, 1, 980, 980);
        due("34 two that nothing parts: the least", y.next(9), 0);
    }

    // ---- promise 35

    private static void count() {
        FootBridges x = new FootBridges();
        x.span(4);
        x.damper(1, 1, 1);
        x.damper(1, 1, 1);
        x.damper(1, 1, 1);
        x.build(2, true);
        x.build(0, true);
        x.test(0, 0, 1, 0, 0);
        x.crowd(0, 999);
        x.crowd(3, 2);
        x.arrive(0, 7);
        x.arrive(59, 99);
        int[] want = {4, 3, 2, 1, 1001, 106};
        for (int what = 0; what < 6; what++) {
            due("35 count(" + what + ")", x.count(what), want[what]);
        }
        due("35 count(-1)", x.count(-1), BAD);
        due("35 count(6)", x.count(6), BAD);
        due("35 count(low)", x.count(LOW), BAD);
    }
}
