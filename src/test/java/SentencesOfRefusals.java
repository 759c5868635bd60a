import java.util.ArrayList;
import java.util.List;
import java.util.function.ToIntFunction;

/**
 * Each sentence of the document's part 6 that names a boundary, in its own words and
 * with a test of its own. What is due was worked out from the words, not taken from the class.
 */
public final class SentencesOfRefusals {
    private static final int UNKNOWN = -1, BAD = -2, FULL = -4;
    private static final int LOW = Integer.MIN_VALUE, HIGH = Integer.MAX_VALUE;
    private static String sentence = "";
    private static int sentences = 0;
    private static int asked = 0;
    private static int wrong = 0;

    public static void main(String[] args) {
        termsOfRefusals();
        System.out.println(sentences + " sentences, " + asked + " calls asked, " + wrong + " wrong");
        if (wrong != 0) {
            System.exit(1);
        }
    }

    private static void says(String words) {
        sentence = words;
        sentences++;
    }

    private static void due(String call, int got, int want) {
        asked++;
        if (got != want) {
            wrong++;
            System.out.println("\"" + sentence + "\": " + call + " answered " + got + ", due is " + want);
        }
    }

    // ======== terms 6: refusals

    private static void termsOfRefusals() {
        refusalNumbers();
        noneIsNine();
        severalRefusals();
        refusedChangesNothing();
        fiveHundredAndTwelveCalls();
    }

    private static void refusalNumbers() {
        says("UNKNOWN -1 (there is no such WEIGHT, SPRING, SORT, DAMPER, PIECE, TEST), BAD -2, STATE -3, FULL -4");
        due("UNKNOWN", FootBridges.UNKNOWN, -1);
        due("BAD", FootBridges.BAD, -2);
        due("STATE", FootBridges.STATE, -3);
        due("FULL", FootBridges.FULL, -4);
        for (int number : new int[] {-1, 50, LOW, HIGH}) {
            FootBridges x = new FootBridges();
            due("no such WEIGHT", x.weight(number, 1), -1);
            due("no such SPRING", x.spring(number, 1), -1);
            due("no such TONE", x.tone(number), -1);
            due("no such SORT", x.sort(number, 0, 0, 0), -1);
            due("no such SORT", x.crowd(number, 0), -1);
            due("no such SORT", x.tooMany(number), -1);
            due("no such DAMPER", x.build(number, true), -1);
            due("no such PIECE", x.on(1, number), -1);
            due("no such TEST", x.forget(number), -1);
        }
    }

    private static void noneIsNine() {
        says("NONE is -9.");
        FootBridges x = new FootBridges();
        due("NONE", FootBridges.NONE, -9);
        due("tooMany", x.tooMany(0), -9);
        x.sort(0, 50, 0, 9999);
        x.crowd(0, 20);
        due("settles", x.settles(10), -9);
        due("ring", x.ring(0, 0), -9);
        due("cheapest", x.cheapest(), -9);
        due("bought", x.bought(0), -9);
        x.rule(3, 0);
        due("bestMark", x.bestMark(1), -9);
        due("breaks", x.breaks(1), -9);
        x.test(0, 1, 1, 9, 9);
        due("law", x.law(0), -9);
        due("among", x.among(true, true), -9);
        due("safe", x.safe(), -9);
        due("next", x.next(1), -9);
    }

    private static void severalRefusals() {
        says("Of several what is told first.");
        FootBridges x = new FootBridges();
        due("weight: UNKNOWN; BAD", x.weight(1, 0), UNKNOWN);
        due("spring: UNKNOWN; BAD", x.spring(2, 100), UNKNOWN);
        due("sort: UNKNOWN; BAD", x.sort(4, 100, -1, 10000), UNKNOWN);
        due("crowd: UNKNOWN; BAD", x.crowd(-1, 1000), UNKNOWN);
        due("on: BAD: m; UNKNOWN", x.on(0, 4), BAD);
        due("on: BAD: m; UNKNOWN", x.on(61, -1), BAD);
        for (int i = 0; i < 10; i++) {
            x.damper(1, 0, 0);
        }
        due("damper: BAD; FULL", x.damper(0, 0, 0), BAD);
        due("damper: BAD; FULL", x.damper(1, 10000, 0), BAD);
        due("damper: BAD; FULL", x.damper(1, 0, 100), BAD);
        due("damper: FULL alone", x.damper(1, 0, 0), FULL);
        for (int i = 0; i < 20; i++) {
            x.test(0, 0, 1, 0, 0);
        }
        due("test: BAD; FULL", x.test(100, 0, 1, 0, 0), BAD);
        due("test: BAD; FULL", x.test(0, 10000, 1, 0, 0), BAD);
        due("test: BAD; FULL", x.test(0, 0, 31, 0, 0), BAD);
        due("test: BAD; FULL", x.test(0, 0, 1, 1, 0), BAD);
        due("test: FULL alone", x.test(0, 0, 1, 0, 0), FULL);
    }

    /** One of each kind of thing, nothing as it is at first. */
    private static FootBridges busy() {
        FootBridges x = new FootBridges();
        x.span(3);
        for (int i = 0; i < 3; i++) {
            x.weight(i, 2 + i);
            x.spring(i, 5 + i);
        }
        x.spring(3, 8);
        for (int sort = 0; sort < 4; sort++) {
            x.sort(sort, 40 + sort, 2 * sort, 100 + sort);
            x.crowd(sort, 11 + sort);
        }
        x.rule(0, 12);
        x.rule(1, 30);
        x.rule(2, 90);
        x.rule(3, 60);
        x.damper(9, 8, 7);
        x.damper(7, 3, 40);
        x.build(1, true);
        int[] settings = {3, 15, 7, 6, 25, 2};
        for (int what = 0; what < 6; what++) {
            x.way(what, settings[what]);
        }
        for (int minute = 0; minute < 60; minute++) {
            x.arrive(minute, minute % 7);
        }
        x.test(10, 5000, 3, 4000, 4990);
        x.test(99, 1000, 1, 990, 1010);
        return x;
    }

    private static FootBridges busyAndFull() {
        FootBridges x = busy();
        for (int i = 2; i < 10; i++) {
            x.damper(i, 20 - i, 3);
        }
        for (int i = 2; i < 20; i++) {
            x.test(i, 100 * i, 2, 0, 110 * i);
        }
        return x;
    }

    /** All that can be read off, first what is told, then what was put in as new things take its place. */
    private static List<Integer> allThatCanBeRead(FootBridges x) {
        List<Integer> read = new ArrayList<>();
        for (int what = 0; what < 6; what++) {
            read.add(x.count(what));
            read.add(x.day(40, what));
            read.add(x.tone(what));
            read.add(x.on(40, what));
        }
        for (int sway : new int[] {0, 1, 2, 3, 4, 5, 6, 7, 99, 100, 101, 102, 103, 104}) {
            read.add(x.net(sway));
            read.add(x.inStep(sway));
        }
        for (int i = 0; i < 10; i++) {
            read.add(x.bought(i));
            read.add(x.law(100 * i));
            read.add(x.breaks(507 * i + 1));
            read.add(x.sure(10 * i));
        }
        for (int v : new int[] {x.cheapest(), x.bestMark(40), x.laws(), x.safe(), x.next(3), x.tooMany(1)}) {
            read.add(v);
        }
        for (int i = 0; i < 6; i++) {
            read.add(x.weight(i, 1));
            read.add(x.spring(i, 1));
            read.add(x.sort(i, 0, 0, 9999));
            read.add(x.crowd(i, 0));
            read.add(x.rule(i, 1));
            read.add(x.way(i, 1));
        }
        for (int i = 0; i < 60; i++) {
            read.add(x.arrive(i, 0));
        }
        for (int i = 0; i < 11; i++) {
            read.add(x.build(i, false));
        }
        for (int i = 0; i < 21; i++) {
            read.add(x.forget(0));
            read.add(x.laws());
        }
        return read;
    }

    private static void refused(String call, int want, ToIntFunction<FootBridges> refusal) {
        refusedBy(busy(), busy(), call, want, refusal);
    }

    private static void refusedWhenFull(String call, int want, ToIntFunction<FootBridges> refusal) {
        refusedBy(busyAndFull(), busyAndFull(), call + " when full", want, refusal);
    }

    private static void refusedBy(FootBridges x, FootBridges untouched, String call, int want,
            ToIntFunction<FootBridges> refusal) {
        due(call, refusal.applyAsInt(x), want);
        boolean same = allThatCanBeRead(x).equals(allThatCanBeRead(untouched));
        due(call + ": whether all is as it was", same ? 1 : 0, 1);
    }

    private static void refusedChangesNothing() {
        says("What is refused changes nothing.");
        refused("span(0)", BAD, x -> x.span(0));
        refused("span(6)", BAD, x -> x.span(6));
        refused("weight(3, 5)", UNKNOWN, x -> x.weight(3, 5));
        refused("weight(-1, 5)", UNKNOWN, x -> x.weight(-1, 5));
        refused("weight(2, 10)", BAD, x -> x.weight(2, 10));
        refused("weight(2, 0)", BAD, x -> x.weight(2, 0));
        refused("spring(4, 5)", UNKNOWN, x -> x.spring(4, 5));
        refused("spring(1, 0)", BAD, x -> x.spring(1, 0));
        refused("spring(3, 100)", BAD, x -> x.spring(3, 100));
        refused("below(401)", BAD, x -> x.below(401));
        refused("tone(3)", UNKNOWN, x -> x.tone(3));
        refused("isTone(401)", BAD, x -> x.isTone(401));
        refused("sort(4, 1, 1, 1)", UNKNOWN, x -> x.sort(4, 1, 1, 1));
        refused("sort(3, 100, 1, 1)", BAD, x -> x.sort(3, 100, 1, 1));
        refused("sort(3, 1, 10000, 1)", BAD, x -> x.sort(3, 1, 10000, 1));
        refused("sort(3, 1, 1, 10000)", BAD, x -> x.sort(3, 1, 1, 10000));
        refused("crowd(4, 1)", UNKNOWN, x -> x.crowd(4, 1));
        refused("crowd(3, 1000)", BAD, x -> x.crowd(3, 1000));
        refused("rule(4, 5)", BAD, x -> x.rule(4, 5));
        refused("rule(-1, 5)", BAD, x -> x.rule(-1, 5));
        refused("rule(0, 501)", BAD, x -> x.rule(0, 501));
        refused("rule(1, 0)", BAD, x -> x.rule(1, 0));
        refused("rule(2, 1000)", BAD, x -> x.rule(2, 1000));
        refused("rule(3, 10000)", BAD, x -> x.rule(3, 10000));
        refused("net(10000)", BAD, x -> x.net(10000));
        refused("beats(0, 10001)", BAD, x -> x.beats(0, 10001));
        refused("settles(10000)", BAD, x -> x.settles(10000));
        refused("ring(0, 4)", BAD, x -> x.ring(0, 4));
        refused("tooMany(4)", UNKNOWN, x -> x.tooMany(4));
        refused("inStep(10000)", BAD, x -> x.inStep(10000));
        refused("damper(0, 1, 1)", BAD, x -> x.damper(0, 1, 1));
        refused("damper(1, 10000, 1)", BAD, x -> x.damper(1, 10000, 1));
        refused("damper(1, 1, 100)", BAD, x -> x.damper(1, 1, 100));
        refused("build(2, true)", UNKNOWN, x -> x.build(2, true));
        refused("build(-1, true)", UNKNOWN, x -> x.build(-1, true));
        refused("way(0, 9)", BAD, x -> x.way(0, 9));
        refused("way(6, 1)", BAD, x -> x.way(6, 1));
        refused("way(-1, 1)", BAD, x -> x.way(-1, 1));
        refused("arrive(60, 1)", BAD, x -> x.arrive(60, 1));
        refused("arrive(59, 100)", BAD, x -> x.arrive(59, 100));
        refused("day(61, 0)", BAD, x -> x.day(61, 0));
        refused("on(1, 3)", UNKNOWN, x -> x.on(1, 3));
        refused("bestMark(61)", BAD, x -> x.bestMark(61));
        refused("test(100, 0, 1, 0, 0)", BAD, x -> x.test(100, 0, 1, 0, 0));
        refused("test(0, 0, 1, 5, 4)", BAD, x -> x.test(0, 0, 1, 5, 4));
        refused("forget(2)", UNKNOWN, x -> x.forget(2));
        refused("forget(-1)", UNKNOWN, x -> x.forget(-1));
        refused("breaks(0)", BAD, x -> x.breaks(0));
        refused("sure(1000)", BAD, x -> x.sure(1000));
        refused("next(31)", BAD, x -> x.next(31));
        refused("count(6)", BAD, x -> x.count(6));
        refusedWhenFull("damper(500, 0, 0)", FULL, x -> x.damper(500, 0, 0));
        refusedWhenFull("damper(0, 0, 0)", BAD, x -> x.damper(0, 0, 0));
        refusedWhenFull("build(10, true)", UNKNOWN, x -> x.build(10, true));
        refusedWhenFull("test(0, 1000, 1, 0, 0)", FULL, x -> x.test(0, 1000, 1, 0, 0));
        refusedWhenFull("test(0, 0, 1, 5, 4)", BAD, x -> x.test(0, 0, 1, 5, 4));
        refusedWhenFull("forget(20)", UNKNOWN, x -> x.forget(20));
    }

    private static void fiveHundredAndTwelveCalls() {
        says("An object is used for at most 512 calls after it has been made");
        FootBridges x = new FootBridges();
        for (int call = 1; call < 512; call++) {
            due("call " + call, x.crowd(call % 4, call), call < 5 ? 0 : call - 4);
        }
        due("call 512", x.count(4), 508 + 509 + 510 + 511);
    }
}
