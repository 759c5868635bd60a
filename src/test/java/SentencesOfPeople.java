/**
 * Each sentence of the document's part 4 and promises 21 to 25 that names a boundary, in its own words and
 * with a test of its own. What is due was worked out from the words, not taken from the class.
 */
public final class SentencesOfPeople {
    private static final int UNKNOWN = -1, BAD = -2, NONE = -9;
    private static final int LOW = Integer.MIN_VALUE, HIGH = Integer.MAX_VALUE;
    private static String sentence = "";
    private static int sentences = 0;
    private static int asked = 0;
    private static int wrong = 0;

    public static void main(String[] args) {
        termsOfPeople();
        promisesOfPeople();
        System.out.println(sentences + " sentences, " + asked + " calls asked, " + wrong + " wrong");
        if (wrong != 0) {
            System.exit(1);
        }
    }

    private static void says(String words) {
        sentence = words;
        sentences++;
    }

    private static void due(String call, int got, int want) {
        asked++;
        if (got != want) {
            wrong++;
            System.out.println("\"" + sentence + "\": " + call + " answered " + got + ", due is " + want);
        }
    }

    // ======== terms 4: people

    private static void termsOfPeople() {
        rangeOfPieces();
        rangeOfHold();
        rangeOfFlow();
        rangeOfArrivals();
        rangeOfLet();
        rangeOfMark();
        rangeOfLate();
        knowsOfNow();
        knowsOfTheMinuteAhead();
        nothingAheadOfMinuteZero();
        rangeOfMinutes();
        fromAnEmptyBridgeAndSmall();
        arrivalsCome();
        fromTheLastPiece();
        gateLetsIn();
        beatOfThoseOnTheBridge();
        rangeOfComfort();
        neverAboveComfort();
        marksUpToTwoHundred();
        leastMarkOfLike();
    }

    /** Pieces, hold, flow, let, mark, late; all of those that come do so in minute 0. */
    private static FootBridges ofWay(int come, int... settings) {
        FootBridges x = new FootBridges();
        for (int what = 0; what < settings.length; what++) {
            x.way(what, settings[what]);
        }
        x.arrive(0, come);
        return x;
    }

    private static void rangeOfSetting(int what, int least, int most, int first) {
        FootBridges x = new FootBridges();
        for (int v : new int[] {least - 1, most + 1, LOW, HIGH}) {
            due("way(" + what + ", " + v + ")", x.way(what, v), BAD);
        }
        due("at first", x.way(what, least), first);
        due("the least was taken", x.way(what, most), least);
        due("the most was taken", x.way(what, most), most);
    }

    private static void rangeOfPieces() {
        says("PIECES 0 .. L - 1 (L 1 .. 8; 4 at first) of a way over it");
        rangeOfSetting(0, 1, 8, 4);
        due("on(1, 3) at first", new FootBridges().on(1, 3), 0);
        due("on(1, 4) at first", new FootBridges().on(1, 4), UNKNOWN);
        for (int pieces = 1; pieces <= 8; pieces++) {
            FootBridges x = ofWay(3, pieces);
            due("on the last of " + pieces, x.on(pieces, pieces - 1), 3);
            due("there is no more", x.on(pieces, pieces), UNKNOWN);
            due("none is over " + pieces, x.day(pieces, 0), 0);
            due("all are over " + pieces, x.day(pieces + 1, 0), 3);
        }
        FootBridges narrowed = ofWay(3, 8);
        narrowed.day(8, 0);
        narrowed.way(0, 2);
        due("on(3, 2), 8 pieces were there", narrowed.on(3, 2), UNKNOWN);
        due("over two pieces, 8 were there", narrowed.day(3, 0), 3);
    }

    private static void rangeOfHold() {
        says("each holds HOLD people (1 .. 99; 20 at first)");
        rangeOfSetting(1, 1, 99, 20);
        FootBridges x = ofWay(99, 2);
        x.way(2, 99);
        x.way(3, 99);
        due("20 at first", x.on(1, 0), 20);
        x.way(1, 1);
        due("one at a time", x.on(1, 0), 1);
        due("one at a time, on each", x.day(2, 1), 2);
        due("one at a time, then one is over", x.day(3, 0), 1);
        x.way(1, 98);
        due("98 of 99", x.on(1, 0), 98);
        x.way(1, 99);
        due("99 of 99", x.on(1, 0), 99);
    }

    private static void rangeOfFlow() {
        says("lets FLOW (1 .. 99; 10 at first) a MINUTE go on");
        rangeOfSetting(2, 1, 99, 10);
        FootBridges x = ofWay(99, 2, 99);
        x.way(3, 99);
        due("10 go on at first", x.on(2, 1), 10);
        due("10 are over", x.day(3, 0), 10);
        x.way(2, 1);
        due("one goes on", x.on(2, 1), 1);
        due("one is over", x.day(3, 0), 1);
        due("58 are over", x.day(60, 0), 58);
        x.way(2, 98);
        due("98 go on", x.on(2, 1), 98);
        x.way(2, 99);
        due("all go on", x.on(2, 1), 99);
        due("all are over", x.day(3, 0), 99);
    }

    private static void rangeOfArrivals() {
        says("ARRIVALS by MINUTES 0 .. 59 (0 .. 99 each; 0 at first)");
        FootBridges x = new FootBridges();
        for (int minute : new int[] {-1, 60, LOW, HIGH}) {
            due("arrive(" + minute + ", 1)", x.arrive(minute, 1), BAD);
        }
        for (int minute = 0; minute < 60; minute++) {
            for (int n : new int[] {-1, 100}) {
                due("arrive(" + minute + ", " + n + ")", x.arrive(minute, n), BAD);
            }
            due("at first, in " + minute, x.arrive(minute, 99), 0);
            due("99 was taken, in " + minute, x.arrive(minute, 99), 99);
        }
        due("arrive(0, low)", x.arrive(0, LOW), BAD);
        due("arrive(0, high)", x.arrive(0, HIGH), BAD);
        due("all come", x.count(5), 5940);
        x.way(3, 0);
        due("all wait", x.day(60, 2), 5940);
        due("all but the last wait", x.day(59, 2), 5841);
        due("the first wait", x.day(1, 2), 99);
        due("arrive(59, 0)", x.arrive(59, 0), 99);
        due("none come in the end", x.day(60, 2), 5841);
    }

    private static void rangeOfLet() {
        says("lets LET (0 .. 99; 10 at first) in a MINUTE");
        rangeOfSetting(3, 0, 99, 10);
        FootBridges x = ofWay(99, 1, 99, 99);
        due("10 at first", x.day(1, 1), 10);
        due("10 more", x.day(2, 2), 79);
        x.way(3, 0);
        due("nobody", x.day(60, 2), 99);
        x.way(3, 1);
        due("one", x.day(1, 1), 1);
        x.way(3, 98);
        due("all but one", x.day(1, 2), 1);
        x.way(3, 99);
        due("all", x.day(1, 2), 0);
    }

    private static void rangeOfMark() {
        says("none if it KNOWS of MARK (0 .. 999; 999 at first) people on the bridge or more");
        rangeOfSetting(4, 0, 999, 999);
        // 5 come in, and stay for 8 minutes: the gate knows of 5 in minute 1.
        FootBridges x = ofWay(99, 8, 99, 99, 5);
        due("999 at first", x.day(2, 1), 10);
        int[] marks = {0, 1, 4, 5, 6, 10, 11};
        int[] two = {0, 5, 5, 5, 10, 10, 10};
        int[] three = {0, 5, 5, 5, 10, 10, 15};
        for (int i = 0; i < marks.length; i++) {
            x.way(4, marks[i]);
            due("MARK " + marks[i] + ": day(2, 1)", x.day(2, 1), two[i]);
            due("MARK " + marks[i] + ": day(3, 1)", x.day(3, 1), three[i]);
        }
        x.way(4, 0);
        due("MARK 0 lets nobody in at all", x.day(60, 2), 99);
        // The most there can be on it, 792, are no 999.
        FootBridges full = ofWay(99, 8, 99, 99, 99);
        for (int minute = 1; minute < 60; minute++) {
            full.arrive(minute, 99);
        }
        due("792 people", full.day(60, 5), 792);
        full.way(4, 792);
        due("MARK 792", full.day(9, 2), 99);
        full.way(4, 793);
        due("MARK 793", full.day(9, 2), 0);
    }

    private static void rangeOfLate() {
        says("it KNOWS how many there were in the end of the MINUTE so many MINUTES ago as it is LATE "
                + "(0 .. 9; 1: the MINUTE ahead; 0: now, ahead of letting in)");
        rangeOfSetting(5, 0, 9, 1);
        // One comes in a minute as long as the gate knows of none: late by d, d minutes (0: one).
        for (int late = 0; late <= 9; late++) {
            FootBridges x = ofWay(99, 8, 99, 99, 1, 1, late);
            int first = Math.max(1, late);
            due("late " + late + ": the last that is let in at first", x.day(first, 2), 99 - first);
            due("late " + late + ": the gate is shut", x.day(first + 1, 2), 99 - first);
        }
        due("late 1 at first", ofWay(99, 8, 99, 99, 1, 1).day(2, 2), 98);
    }

    private static void knowsOfNow() {
        says("0: now, ahead of letting in");
        // 5 come in, one goes over in minute 1: 4 are there then, ahead of letting in.
        FootBridges x = ofWay(99, 1, 99, 1, 5, 5, 0);
        due("4 are below 5", x.day(2, 1), 9);
        x.way(4, 4);
        due("4 are not below 4", x.day(2, 1), 4);
        due("3 are below 4", x.day(3, 1), 8);
    }

    private static void knowsOfTheMinuteAhead() {
        says("1: the MINUTE ahead");
        // As above, but it knows of the 5 that were there in the end of minute 0, of 4 a minute later.
        FootBridges x = ofWay(99, 1, 99, 1, 5, 5, 1);
        due("5 are not below 5", x.day(2, 1), 4);
        due("4 are below 5", x.day(3, 1), 8);
        x.way(5, 2);
        due("late 2: it knows of nobody in minute 1", x.day(2, 1), 9);
        due("late 2: it knows of 5 in minute 2", x.day(3, 1), 8);
        due("late 2: it knows of 9 in minute 3", x.day(4, 1), 7);
    }

    private static void nothingAheadOfMinuteZero() {
        says("nothing was there ahead of MINUTE 0");
        // Those of minutes 0 .. 8 are let in; in minute 25 it knows of minute 16, when all are over.
        FootBridges x = ofWay(99, 8, 99, 99, 1, 1, 9);
        int[] minutes = {1, 8, 9, 10, 24, 25, 26, 27};
        int[] waiting = {98, 91, 90, 90, 90, 90, 89, 88};
        for (int i = 0; i < minutes.length; i++) {
            due("day(" + minutes[i] + ", 2)", x.day(minutes[i], 2), waiting[i]);
        }
        // Nor is anything left of a day that was walked before.
        FootBridges again = ofWay(99, 8, 99, 99, 99, 1, 9);
        again.day(60, 0);
        due("the same day again", again.day(1, 1), 99);
        again.way(4, 0);
        due("0 people are not below 0", again.day(1, 1), 0);
    }

    private static void rangeOfMinutes() {
        says("A DAY of m MINUTES (1 .. 60)");
        FootBridges x = ofWay(1, 1);
        for (int m : new int[] {0, 61, -1, LOW, HIGH}) {
            due("day(" + m + ", 0)", x.day(m, 0), BAD);
            due("on(" + m + ", 0)", x.on(m, 0), BAD);
            due("bestMark(" + m + ")", x.bestMark(m), BAD);
        }
        due("day(1, 1)", x.day(1, 1), 1);
        due("on(1, 0)", x.on(1, 0), 1);
        due("bestMark(1)", x.bestMark(1), 0);
        due("day(60, 0)", x.day(60, 0), 1);
        due("on(60, 0)", x.on(60, 0), 0);
        due("bestMark(60)", x.bestMark(60), 1);
        x.arrive(59, 7);
        due("minute 59 is the last of 60", x.on(60, 0), 7);
        due("minute 58 is the last of 59", x.on(59, 0), 0);
    }

    private static void fromAnEmptyBridgeAndSmall() {
        says("from an empty bridge and SMALL");
        FootBridges x = ofWay(9, 2, 5, 2, 4);
        int first = x.day(1, 1);
        due("day(1, 1)", first, 4);
        x.day(60, 3);
        x.bestMark(60);
        due("day(1, 1) again", x.day(1, 1), 4);
        due("day(1, 0) again", x.day(1, 0), 0);
        due("day(1, 2) again", x.day(1, 2), 5);
        due("day(1, 3) again", x.day(1, 3), 9);
        due("day(1, 5) again", x.day(1, 5), 4);
        x.rule(1, 500);
        due("from 500", x.day(1, 3), 495);
    }

    private static void arrivalsCome() {
        says("(a) ARRIVALS come to the QUEUE");
        FootBridges x = ofWay(0, 1);
        x.arrive(1, 3);
        due("not yet", x.day(1, 1), 0);
        due("in at once", x.day(2, 1), 3);
        due("nobody waits", x.day(2, 2), 0);
        x.arrive(2, 15);
        due("10 of 15 are let in", x.day(3, 2), 5);
    }

    private static void fromTheLastPiece() {
        says("(b) from the last PIECE to the first: as many as there are, FLOW at most, "
                + "and as the next one has room (behind the last: all), go on");
        // Each holds one: what goes on makes room for the one behind it in the same minute.
        FootBridges ones = ofWay(9, 3, 1, 1, 1);
        for (int m = 1; m <= 3; m++) {
            due("day(" + m + ", 1)", ones.day(m, 1), m);
            due("nobody goes on by two pieces: on(" + m + ", " + (m - 1) + ")", ones.on(m, m - 1), 1);
            due("day(" + m + ", 0)", ones.day(m, 0), 0);
        }
        for (int m = 4; m <= 12; m++) {
            due("day(" + m + ", 0)", ones.day(m, 0), m - 3);
        }
        // As many as there are: 3 of a FLOW of 10.
        FootBridges three = ofWay(3, 2);
        due("3 go on", three.on(2, 1), 3);
        due("3 are over", three.day(3, 0), 3);
        due("the first is empty", three.on(2, 0), 0);
        // FLOW at most, behind the last piece too, where there is room for all.
        FootBridges many = ofWay(99, 1, 99, 30, 99);
        int[] over = {0, 30, 60, 90, 99, 99};
        for (int m = 1; m <= 6; m++) {
            due("a FLOW of 30: day(" + m + ", 0)", many.day(m, 0), over[m - 1]);
        }
    }

    private static void gateLetsIn() {
        says("(c) THE GATE lets in, as many as wait, LET at most, and as PIECE 0 has room");
        due("as many as wait", ofWay(3, 1, 9, 1, 5).day(1, 1), 3);
        due("LET at most", ofWay(9, 1, 9, 1, 5).day(1, 1), 5);
        due("as it has room", ofWay(9, 1, 4, 1, 5).day(1, 1), 4);
        // Who goes on in (b) makes room ahead of (c): one goes, one comes in.
        FootBridges x = ofWay(9, 1, 4, 1, 5);
        due("room for one", x.day(2, 1), 4);
        due("room for one: it is taken", x.day(2, 2), 4);
        due("room for one each minute", x.day(6, 2), 0);
        // Who is let in does not go on in the same minute.
        due("let in, but not on", ofWay(9, 2, 9, 9, 9).on(1, 0), 9);
    }

    private static void beatOfThoseOnTheBridge() {
        says("(d) a BEAT with a CROWD of SORT 0 of those on the bridge alone");
        // 20 of a PUSH of 50 are as much as the DAMPING: 19 are too few.
        FootBridges x = ofWay(20, 1, 20, 20, 20);
        x.rule(1, 1000);
        x.sort(0, 50, 0, 9999);
        for (int sort = 0; sort < 4; sort++) {
            x.crowd(sort, 999);
        }
        x.sort(1, 99, 0, 9999);
        due("20 are on it", x.day(1, 3), 1000);
        due("all are over", x.day(2, 3), 990);
        due("the CROWD is as it was", x.count(4), 3996);
        x.arrive(0, 19);
        due("19 are on it", x.day(1, 3), 999);
        x.arrive(0, 22);
        x.way(3, 22);
        x.way(1, 22);
        due("22 are on it", x.day(1, 3), 1001);
        // SORT 0 is in STEP from LOCK to STOP here, too.
        x.sort(0, 50, 1000, 1000);
        due("at LOCK and STOP", x.day(1, 3), 1001);
        x.sort(0, 50, 1001, 9999);
        due("below LOCK", x.day(1, 3), 990);
        x.sort(0, 50, 0, 999);
        due("above STOP", x.day(1, 3), 990);
        x.sort(0, 50, 0, 9999);
        x.damper(1, 0, 0);
        due("a DAMPER that is not BUILT", x.day(1, 3), 1001);
        x.build(0, true);
        due("a DAMPER that is BUILT", x.day(1, 3), 1000);
    }

    private static void rangeOfComfort() {
        says("COMFORT 0 .. 9999 (100 at first)");
        FootBridges x = new FootBridges();
        x.rule(1, 101);
        x.rule(0, 1);
        due("100 at first, and 100 behind a BEAT", x.bestMark(1), 0);
        x.rule(1, 102);
        due("100 at first, and 101 behind a BEAT", x.bestMark(1), NONE);
        for (int v : new int[] {-1, 10000, LOW, HIGH}) {
            due("rule(3, " + v + ")", x.rule(3, v), BAD);
        }
        due("rule(3, 0)", x.rule(3, 0), 100);
        due("rule(3, 9999)", x.rule(3, 9999), 0);
        due("rule(3, 9999)", x.rule(3, 9999), 9999);
        due("nothing is above 9999", x.bestMark(60), 0);
    }

    private static void neverAboveComfort() {
        says("by which SWAY is never above COMFORT behind a BEAT");
        // 4 push 3 (3.96, cut) less 1: up by 2 of 1000; then all are over.
        FootBridges x = ofWay(4, 1, 4, 4, 4);
        x.rule(0, 1);
        x.rule(1, 1000);
        x.sort(0, 99, 0, 9999);
        due("the greatest", x.day(2, 4), 1002);
        due("behind the last BEAT", x.day(2, 3), 1000);
        x.rule(3, 1002);
        due("1002 is not above 1002", x.bestMark(2), 1);
        x.rule(3, 1001);
        due("1002 was above 1001 on the way: nobody is let in", x.bestMark(2), 0);
        x.rule(3, 999);
        due("999 behind the first BEAT", x.bestMark(2), 0);
        x.rule(3, 998);
        due("SMALL goes on for too long", x.bestMark(2), NONE);
        // SMALL itself is not behind a BEAT.
        FootBridges y = new FootBridges();
        y.rule(0, 500);
        y.rule(1, 1000);
        y.rule(3, 500);
        due("500 behind the first BEAT", y.bestMark(1), 0);
        y.rule(3, 499);
        due("500 are above 499", y.bestMark(1), NONE);
        y.rule(1, 1);
        y.rule(3, 0);
        due("0 is not above 0", y.bestMark(60), 0);
        y.rule(1, 3);
        due("1 is above 0", y.bestMark(60), NONE);
    }

    /** Loads of people by minutes, each of which is on the bridge for eight. */
    private static FootBridges ofLoads(int... loads) {
        FootBridges x = ofWay(0, 8, 99, 99, 99);
        for (int minute = 0; minute < loads.length; minute++) {
            x.arrive(minute, loads[minute]);
        }
        return x;
    }

    private static void marksUpToTwoHundred() {
        says("of MARKS 0 .. 200");
        // The load of minute 3 is let in if the gate does not mind the first three.
        due("it minds 199", ofLoads(99, 99, 1, 9).bestMark(12), 200);
        due("it minds 200, for which 201 would be asked", ofLoads(99, 99, 2, 9).bestMark(12), 199);
        due("it minds 198", ofLoads(99, 99, 0, 9).bestMark(12), 199);
        due("MARK 0", ofLoads(0).bestMark(12), 0);
        due("MARK 1", ofLoads(1).bestMark(12), 1);
        FootBridges x = ofLoads(99, 99, 2, 9);
        x.way(4, 201);
        due("201 itself would be better", x.day(12, 0), 209);
        due("but is not asked", x.bestMark(12), 199);
        due("the MARK of the gate is as it was", x.way(4, 201), 201);
    }

    private static void leastMarkOfLike() {
        says("that by which most people have come over; of like ones the least; NONE.");
        due("nobody comes", new FootBridges().bestMark(60), 0);
        due("nobody is over yet", ofWay(9, 4).bestMark(4), 0);
        due("some are over", ofWay(9, 4).bestMark(5), 1);
        due("a second load needs a MARK of 6", ofLoads(5, 5).bestMark(10), 6);
        due("a second load is not over yet", ofLoads(5, 5).bestMark(9), 1);
        FootBridges loud = ofLoads(5, 5);
        loud.rule(3, 0);
        due("no MARK is quiet enough", loud.bestMark(9), NONE);
    }

    // ======== promises 21 to 25

    private static void promisesOfPeople() {
        wayWas();
        arrivalsWere();
        behindADay();
        onAPiece();
        bestMarkOrNone();
    }

    private static void wayWas() {
        says("L (what = 0), HOLD (1), FLOW (2), LET (3), MARK (4), LATE (5): what it was. BAD.");
        FootBridges x = new FootBridges();
        int[] first = {4, 20, 10, 10, 999, 1};
        for (int what = 0; what < 6; what++) {
            due("way(" + what + ", ..) at first", x.way(what, 2 + what), first[what]);
        }
        for (int what = 0; what < 6; what++) {
            due("way(" + what + ", ..) as put in", x.way(what, 1), 2 + what);
        }
        for (int what : new int[] {-1, 6, LOW, HIGH}) {
            due("way(" + what + ", 1)", x.way(what, 1), BAD);
        }
        int[] zero = {BAD, BAD, BAD, 1, 1, 1};
        int[] hundred = {BAD, BAD, BAD, BAD, 0, BAD};
        for (int what = 0; what < 6; what++) {
            due("way(" + what + ", 0)", x.way(what, 0), zero[what]);
            due("way(" + what + ", 100)", x.way(what, 100), hundred[what]);
        }
    }

    private static void arrivalsWere() {
        says("ARRIVALS of a MINUTE: what they were. BAD.");
        FootBridges x = new FootBridges();
        due("arrive(59, 99)", x.arrive(59, 99), 0);
        due("arrive(59, 0)", x.arrive(59, 0), 99);
        due("arrive(58, 5) is another", x.arrive(58, 5), 0);
        due("arrive(60, 5)", x.arrive(60, 5), BAD);
        due("arrive(-1, 5)", x.arrive(-1, 5), BAD);
        due("arrive(58, 100)", x.arrive(58, 100), BAD);
        due("arrive(58, -1)", x.arrive(58, -1), BAD);
        due("arrive(58, 5)", x.arrive(58, 5), 5);
    }

    private static void behindADay() {
        says("those who came over (what = 0), those on the bridge (1), in the QUEUE (2), SWAY (3), "
                + "the greatest SWAY behind any BEAT (4), "
                + "most people on the bridge in the end of any MINUTE (5). BAD.");
        // 9 come, 5 are let in and 2 go over in a minute; one pushes 0.99, so 5 of them 4, 7 of them 6.
        FootBridges x = ofWay(9, 1, 8, 2, 5);
        x.rule(0, 4);
        x.rule(1, 1000);
        x.sort(0, 99, 0, 9999);
        int[][] days = {
            {0, 5, 4, 1000, 1000, 5},
            {2, 7, 0, 1002, 1002, 7},
            {4, 5, 0, 1002, 1002, 7},
            {6, 3, 0, 999, 1002, 7},
            {8, 1, 0, 995, 1002, 7},
            {9, 0, 0, 991, 1002, 7},
            {9, 0, 0, 987, 1002, 7},
        };
        for (int m = 1; m <= days.length; m++) {
            for (int what = 0; what < 6; what++) {
                due("day(" + m + ", " + what + ")", x.day(m, what), days[m - 1][what]);
            }
        }
        for (int what : new int[] {-1, 6, LOW, HIGH}) {
            due("day(1, " + what + ")", x.day(1, what), BAD);
        }
        due("day(0, 0)", x.day(0, 0), BAD);
        due("day(61, 5)", x.day(61, 5), BAD);
        // SMALL itself is behind no BEAT.
        due("the greatest from SMALL down", new FootBridges().day(1, 4), 9);
    }

    private static void onAPiece() {
        says("How many are on a PIECE then. BAD: m; UNKNOWN.");
        FootBridges x = ofWay(9, 3, 5, 2, 4);
        // 4 are let in, then 3 more as there is room for them, then the last 2.
        int[][] days = {{4, 0, 0}, {5, 2, 0}, {5, 2, 2}, {3, 2, 2}, {1, 2, 2}, {0, 1, 2}, {0, 0, 1}, {0, 0, 0}};
        for (int m = 1; m <= days.length; m++) {
            for (int piece = 0; piece < 3; piece++) {
                due("on(" + m + ", " + piece + ")", x.on(m, piece), days[m - 1][piece]);
            }
        }
        for (int piece : new int[] {-1, 3, 7, 8, LOW, HIGH}) {
            due("on(1, " + piece + ")", x.on(1, piece), UNKNOWN);
            due("on(61, " + piece + ")", x.on(61, piece), BAD);
        }
        due("on(0, 0)", x.on(0, 0), BAD);
        due("on(61, 0)", x.on(61, 0), BAD);
        due("on(60, 0)", x.on(60, 0), 0);
    }

    private static void bestMarkOrNone() {
        says("THE BEST MARK; NONE. BAD.");
        FootBridges x = ofLoads(5, 5);
        x.way(4, 3);
        due("bestMark(10)", x.bestMark(10), 6);
        due("whatever the MARK is now", x.way(4, 999), 3);
        due("bestMark(10)", x.bestMark(10), 6);
        x.rule(3, 8);
        due("NONE", x.bestMark(10), NONE);
        for (int m : new int[] {0, 61, -1, LOW, HIGH}) {
            due("bestMark(" + m + ")", x.bestMark(m), BAD);
        }
        // Late by 9 the gate is open for both, or shut for both.
        FootBridges late = ofLoads(5, 5);
        late.way(5, 9);
        due("late by 9", late.bestMark(10), 1);
    }
}
