/**
 * Each sentence of the document's part 1 and promises 1 to 7 that names a boundary, in its own words and
 * with a test of its own. What is due was worked out from the words, not taken from the class.
 */
public final class SentencesOfTones {
    private static final int UNKNOWN = -1, BAD = -2;
    private static final int LOW = Integer.MIN_VALUE, HIGH = Integer.MAX_VALUE;
    private static String sentence = "";
    private static int sentences = 0;
    private static int asked = 0;
    private static int wrong = 0;

    public static void main(String[] args) {
        termsOfTones();
        promisesOfTones();
        System.out.println(sentences + " sentences, " + asked + " calls asked, " + wrong + " wrong");
        if (wrong != 0) {
            System.exit(1);
        }
    }

    private static void says(String words) {
        sentence = words;
        sentences++;
    }

    private static void due(String call, int got, int want) {
        asked++;
        if (got != want) {
            wrong++;
            System.out.println("\"" + sentence + "\": " + call + " answered " + got + ", due is " + want);
        }
    }

    // ======== terms 1: the span and its tones

    private static void termsOfTones() {
        howManyWeights();
        rangeOfWeights();
        howManySprings();
        endsOfSprings();
        rangeOfSprings();
        notAllPlacesZero();
        placesBalance();
        beyondTheEndsZero();
        asManyTones();
    }

    private static FootBridges ofSpan(int n, int... springs) {
        FootBridges x = new FootBridges();
        x.span(n);
        for (int i = 0; i < springs.length; i++) {
            x.spring(i, springs[i]);
        }
        return x;
    }

    private static void howManyWeights() {
        says("(n 1 .. 5; one at first)");
        FootBridges x = new FootBridges();
        due("count(0) at first", x.count(0), 1);
        due("weight(0, 1) at first", x.weight(0, 1), 1);
        due("weight(1, 1) at first", x.weight(1, 1), UNKNOWN);
        int was = 1;
        for (int n = 1; n <= 5; n++) {
            due("span(" + n + ")", x.span(n), was);
            due("the last weight of " + n, x.weight(n - 1, 1), 1);
            due("one weight more than " + n, x.weight(n, 1), UNKNOWN);
            was = n;
        }
        for (int n : new int[] {0, 6, -1, -5, LOW, HIGH}) {
            due("span(" + n + ")", x.span(n), BAD);
        }
        due("count(0)", x.count(0), 5);
    }

    private static void rangeOfWeights() {
        says("each 1 .. 9 (1 at first)");
        for (int n = 1; n <= 5; n++) {
            FootBridges x = ofSpan(n);
            for (int i = 0; i < n; i++) {
                String of = "weight(" + i + ", ..) of " + n + ": ";
                for (int v : new int[] {0, 10, -1, LOW, HIGH}) {
                    due(of + v, x.weight(i, v), BAD);
                }
                due(of + "at first", x.weight(i, 9), 1);
                due(of + "9 was taken", x.weight(i, 1), 9);
                due(of + "1 was taken", x.weight(i, 1), 1);
            }
        }
        FootBridges heavy = ofSpan(1, 99, 99);
        due("198 by 1", heavy.tone(0), 198);
        heavy.weight(0, 9);
        due("198 by 9", heavy.tone(0), 22);
        due("198 by 9 is whole", heavy.isTone(22), 1);
    }

    private static void howManySprings() {
        says("SPRINGS 0 .. n");
        for (int n = 1; n <= 5; n++) {
            FootBridges x = ofSpan(n);
            due("spring(0, 1) of " + n, x.spring(0, 1), 1);
            due("spring(n, 1) of " + n, x.spring(n, 1), 1);
            due("spring(n + 1, 1) of " + n, x.spring(n + 1, 1), UNKNOWN);
            due("spring(-1, 1) of " + n, x.spring(-1, 1), UNKNOWN);
        }
        FootBridges narrowed = ofSpan(5);
        narrowed.span(2);
        due("spring(3, 1), 5 weights were there", narrowed.spring(3, 1), UNKNOWN);
    }

    private static void endsOfSprings() {
        says("SPRING i from WEIGHT i - 1 to WEIGHT i, 0 and n to the ground");
        // 2 -2 / -2 8 with weights 1 and 4: (2 - t)(8 - 4t) is 4 at 1 and 3. Turned round it is not.
        FootBridges x = ofSpan(2, 0, 2, 6);
        x.weight(1, 4);
        due("isTone(1)", x.isTone(1), 1);
        due("isTone(3)", x.isTone(3), 1);
        due("tone(0)", x.tone(0), 1);
        due("tone(1)", x.tone(1), 3);
        FootBridges turned = ofSpan(2, 6, 2, 0);
        turned.weight(1, 4);
        due("turned round: isTone(1)", turned.isTone(1), 0);
        due("turned round: isTone(3)", turned.isTone(3), 0);
        due("turned round: tone(1), just above 8", turned.tone(1), 8);
        turned.weight(1, 1);
        turned.weight(0, 4);
        due("weights turned too: isTone(1)", turned.isTone(1), 1);
        due("weights turned too: isTone(3)", turned.isTone(3), 1);
        // The last of three stands on the ground alone: its spring adds to its own weight's 1.
        FootBridges three = ofSpan(3, 0, 1, 1, 99);
        due("three, the last held: tone(2), just above 100", three.tone(2), 100);
        due("three, the last held: tone(0)", three.tone(0), 0);
        due("three, the last held: isTone(0)", three.isTone(0), 0);
    }

    private static void rangeOfSprings() {
        says("1 .. 99 (SPRINGS 0 and n 0 .. 99; all 1 at first)");
        for (int n = 1; n <= 5; n++) {
            FootBridges x = ofSpan(n);
            for (int i = 0; i <= n; i++) {
                String of = "spring(" + i + ", ..) of " + n + ": ";
                boolean isEnd = i == 0 || i == n;
                due(of + "99, 1 at first", x.spring(i, 99), 1);
                due(of + "100", x.spring(i, 100), BAD);
                due(of + "-1", x.spring(i, -1), BAD);
                due(of + "low", x.spring(i, LOW), BAD);
                due(of + "high", x.spring(i, HIGH), BAD);
                due(of + "1", x.spring(i, 1), 99);
                due(of + "0", x.spring(i, 0), isEnd ? 1 : BAD);
                due(of + "behind 0", x.spring(i, 1), isEnd ? 0 : 1);
            }
        }
        // What is an end hangs on how many weights there are now.
        FootBridges x = ofSpan(2);
        due("spring(2, 0) of 2", x.spring(2, 0), 1);
        x.span(3);
        due("spring(2, 0) of 3", x.spring(2, 0), BAD);
    }

    private static void notAllPlacesZero() {
        says("if there are places x (not all 0) so that for each i");
        // With places all 0 every number would be a tone.
        FootBridges x = new FootBridges();
        for (int t = 0; t <= 400; t++) {
            due("isTone(" + t + ")", x.isTone(t), t == 2 ? 1 : 0);
        }
        due("some may be 0: 1, 0 and -1 of three", ofSpan(3).isTone(2), 1);
    }

    private static void placesBalance() {
        says("(SPRING i and SPRING i + 1 together) times x i, less SPRING i times x i - 1, "
                + "less SPRING i + 1 times x i + 1");
        // With places 1 2 3 2 1, to one side all: the lowest.
        FootBridges low = ofSpan(5, 12, 9, 5, 7, 9, 14);
        int[] weights = {3, 2, 4, 1, 5};
        for (int i = 0; i < 5; i++) {
            low.weight(i, weights[i]);
        }
        due("isTone(1)", low.isTone(1), 1);
        due("tone(0)", low.tone(0), 1);
        due("below(1)", low.below(1), 0);
        // With places 1 -2 3 -2 1, to both sides in turn: the highest.
        FootBridges high = ofSpan(5, 15, 5, 9, 9, 25, 15);
        high.weight(3, 2);
        high.weight(4, 3);
        due("isTone(30)", high.isTone(30), 1);
        due("tone(4)", high.tone(4), 30);
        due("below(30)", high.below(30), 4);
        due("below(31)", high.below(31), 5);
    }

    private static void beyondTheEndsZero() {
        says("(beyond the ends 0)");
        // A spring to the ground pulls its own weight alone.
        due("99 99", ofSpan(1, 99, 99).isTone(198), 1);
        due("0 99", ofSpan(1, 0, 99).isTone(99), 1);
        due("99 0", ofSpan(1, 99, 0).isTone(99), 1);
        due("99 1 99", ofSpan(2, 99, 1, 99).isTone(99), 1);
        due("99 1 99", ofSpan(2, 99, 1, 99).isTone(101), 1);
    }

    private static void asManyTones() {
        says("There are n TONES 0, 1, .., the lowest first (each as often as it is one).");
        int[][] whole = {{198}, {99, 297}, {57, 198, 338}, {37, 136, 259, 358}, {26, 99, 198, 297, 369}};
        for (int n = 1; n <= 5; n++) {
            FootBridges x = ofSpan(n);
            for (int i = 0; i <= n; i++) {
                x.spring(i, 99);
            }
            for (int k = 0; k < n; k++) {
                due("all 99: tone(" + k + ") of " + n, x.tone(k), whole[n - 1][k]);
            }
            due("one tone more than " + n, x.tone(n), UNKNOWN);
            due("below(400) of " + n, x.below(400), n);
        }
        // 94 -1 / -1 94 by weights of 9: 93 and 95 ninths, both between 10 and 11.
        FootBridges like = ofSpan(2, 93, 1, 93);
        like.weight(0, 9);
        like.weight(1, 9);
        due("93 ninths", like.tone(0), 10);
        due("95 ninths", like.tone(1), 10);
        due("none is below 10", like.below(10), 0);
        due("both are below 11", like.below(11), 2);
    }

    // ======== promises 1 to 7

    private static void promisesOfTones() {
        newObject();
        spanAnew();
        weightWas();
        springWas();
        tonesBelow();
        wholeTone();
        toneItself();
    }

    private static void newObject() {
        says("One WEIGHT, nobody, four PIECES.");
        FootBridges x = new FootBridges();
        int[] counts = {1, 0, 0, 0, 0, 0};
        for (int what = 0; what < 6; what++) {
            due("count(" + what + ")", x.count(what), counts[what]);
        }
        due("inStep(10)", x.inStep(10), 0);
        due("day(60, 0)", x.day(60, 0), 0);
        due("day(60, 1)", x.day(60, 1), 0);
        due("day(60, 2)", x.day(60, 2), 0);
        due("day(60, 5)", x.day(60, 5), 0);
        due("on(60, 3)", x.on(60, 3), 0);
        due("on(60, 4)", x.on(60, 4), UNKNOWN);
        due("way(0, 4)", x.way(0, 4), 4);
        due("one object knows nothing of another", twoObjects(), 0);
    }

    private static int twoObjects() {
        FootBridges x = new FootBridges();
        FootBridges y = new FootBridges();
        x.crowd(0, 7);
        x.damper(1, 1, 1);
        x.arrive(0, 7);
        x.test(0, 0, 1, 1, 1);
        return y.count(1) + y.count(3) + y.count(4) + y.count(5) + 2500 - y.laws();
    }

    private static void spanAnew() {
        says("A SPAN of n WEIGHTS anew, all 1: how many there were. BAD.");
        FootBridges x = ofSpan(5, 2, 3, 4, 5, 6, 7);
        for (int i = 0; i < 5; i++) {
            x.weight(i, 9);
        }
        due("span(5) of as many", x.span(5), 5);
        for (int i = 0; i < 5; i++) {
            due("weight(" + i + ", ..) is 1 again", x.weight(i, 8), 1);
        }
        for (int i = 0; i <= 5; i++) {
            due("spring(" + i + ", ..) is 1 again", x.spring(i, 8), 1);
        }
        due("span(2)", x.span(2), 5);
        due("span(5)", x.span(5), 2);
        for (int i = 0; i < 5; i++) {
            due("weight(" + i + ", ..) is 1 behind fewer", x.weight(i, 8), 1);
            due("spring(" + (i + 1) + ", ..) is 1 behind fewer", x.spring(i + 1, 8), 1);
        }
        due("span(0)", x.span(0), BAD);
        due("span(6)", x.span(6), BAD);
    }

    private static void weightWas() {
        says("A WEIGHT: what it was. UNKNOWN; BAD.");
        FootBridges x = ofSpan(2);
        due("weight(1, 9)", x.weight(1, 9), 1);
        due("weight(1, 5)", x.weight(1, 5), 9);
        due("weight(1, 5)", x.weight(1, 5), 5);
        due("weight(0, 5) is another", x.weight(0, 5), 1);
        due("weight(2, 5)", x.weight(2, 5), UNKNOWN);
        due("weight(1, 10)", x.weight(1, 10), BAD);
        due("weight(2, 10)", x.weight(2, 10), UNKNOWN);
    }

    private static void springWas() {
        says("A SPRING: what it was. UNKNOWN; BAD.");
        FootBridges x = ofSpan(2);
        due("spring(2, 0)", x.spring(2, 0), 1);
        due("spring(2, 99)", x.spring(2, 99), 0);
        due("spring(2, 99)", x.spring(2, 99), 99);
        due("spring(1, 99) is another", x.spring(1, 99), 1);
        due("spring(3, 1)", x.spring(3, 1), UNKNOWN);
        due("spring(1, 0)", x.spring(1, 0), BAD);
        due("spring(3, 0)", x.spring(3, 0), UNKNOWN);
    }

    private static void tonesBelow() {
        says("How many TONES are below t (0 .. 400). BAD.");
        for (int t : new int[] {-1, 401, LOW, HIGH}) {
            due("below(" + t + ")", ofSpan(2).below(t), BAD);
        }
        // Free at both ends: 0 is a TONE, but not below 0.
        FootBridges free = ofSpan(2, 0, 99, 0);
        int[] numbers = {0, 1, 198, 199, 400};
        int[] below = {0, 1, 1, 2, 2};
        for (int i = 0; i < numbers.length; i++) {
            due("0 and 198: below(" + numbers[i] + ")", free.below(numbers[i]), below[i]);
        }
        // What is between 0 and 1 is below 1.
        FootBridges light = ofSpan(1, 3, 3);
        light.weight(0, 9);
        due("six ninths: below(0)", light.below(0), 0);
        due("six ninths: below(1)", light.below(1), 1);
        due("the highest there can be: below(400)", ofSpan(5, 99, 99, 99, 99, 99, 99).below(400), 5);
        due("the highest there can be: below(369)", ofSpan(5, 99, 99, 99, 99, 99, 99).below(369), 4);
        due("the highest there can be: below(370)", ofSpan(5, 99, 99, 99, 99, 99, 99).below(370), 5);
    }

    private static void wholeTone() {
        says("The greatest whole number that is no more than TONE k. UNKNOWN: k.");
        FootBridges x = new FootBridges();
        x.weight(0, 9);
        x.spring(1, 0);
        int[] springs = {0, 1, 8, 9, 10, 17, 18, 19, 98, 99};
        int[] whole = {0, 0, 0, 1, 1, 1, 2, 2, 10, 11};
        for (int i = 0; i < springs.length; i++) {
            x.spring(0, springs[i]);
            due(springs[i] + " ninths", x.tone(0), whole[i]);
        }
        for (int k : new int[] {-1, 1, 5, LOW, HIGH}) {
            due("tone(" + k + ")", x.tone(k), UNKNOWN);
        }
        x.span(5);
        due("tone(4) of 5", x.tone(4), 3);
        due("tone(5) of 5", x.tone(5), UNKNOWN);
        x.span(1);
        due("tone(1) of 1, 5 were there", x.tone(1), UNKNOWN);
    }

    private static void toneItself() {
        says("Whether t (0 .. 400) is a TONE itself: 1, 0. BAD.");
        FootBridges x = ofSpan(2, 0, 99, 0);
        int[] numbers = {0, 1, 197, 198, 199, 400};
        int[] are = {1, 0, 0, 1, 0, 0};
        for (int i = 0; i < numbers.length; i++) {
            due("0 and 198: isTone(" + numbers[i] + ")", x.isTone(numbers[i]), are[i]);
        }
        for (int t : new int[] {-1, 401, LOW, HIGH}) {
            due("isTone(" + t + ")", x.isTone(t), BAD);
        }
        x.spring(2, 1);
        due("held at one end", x.isTone(0), 0);
        FootBridges ninths = new FootBridges();
        ninths.weight(0, 9);
        for (int spring = 0; spring <= 19; spring++) {
            ninths.spring(0, spring);
            due("ninths: isTone(2)", ninths.isTone(2), spring == 17 ? 1 : 0);
        }
    }
}
