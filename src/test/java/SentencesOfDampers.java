/**
 * Each sentence of the document's part 3 and promises 17 to 20 that names a boundary, in its own words and
 * with a test of its own. What is due was worked out from the words, not taken from the class.
 */
public final class SentencesOfDampers {
    private static final int UNKNOWN = -1, BAD = -2, FULL = -4, NONE = -9;
    private static final int LOW = Integer.MIN_VALUE, HIGH = Integer.MAX_VALUE;
    private static String sentence = "";
    private static int sentences = 0;
    private static int asked = 0;
    private static int wrong = 0;

    public static void main(String[] args) {
        termsOfDampers();
        promisesOfDampers();
        System.out.println(sentences + " sentences, " + asked + " calls asked, " + wrong + " wrong");
        if (wrong != 0) {
            System.exit(1);
        }
    }

    private static void says(String words) {
        sentence = words;
        sentences++;
    }

    private static void due(String call, int got, int want) {
        asked++;
        if (got != want) {
            wrong++;
            System.out.println("\"" + sentence + "\": " + call + " answered " + got + ", due is " + want);
        }
    }

    /** Every sway gets this net: pushes less a damping of 1, or the damping alone. */
    private static FootBridges ofNet(int net) {
        FootBridges x = new FootBridges();
        x.rule(0, net < 0 ? -net : 1);
        if (net >= 0) {
            x.sort(0, 50, 0, 9999);
            x.crowd(0, 2 * (net + 1));
        }
        return x;
    }

    // ======== terms 3: dampers

    private static void termsOfDampers() {
        tenDampers();
        rangeOfDampers();
        whateverIsBuilt();
        rangeOfCarry();
        smallSettlesByIt();
        leastPrice();
        fewestOfLike();
        firstByNumbers();
    }

    /** The net is 10 without dampers: 11 added make it settle, 10 do not. */
    private static FootBridges ofNetTen() {
        return ofNet(10);
    }

    private static void boughtAre(String what, FootBridges x, int price, int... numbers) {
        due(what + ": cheapest()", x.cheapest(), price);
        for (int i = 0; i < numbers.length; i++) {
            due(what + ": bought(" + i + ")", x.bought(i), numbers[i]);
        }
        due(what + ": no more", x.bought(numbers.length), NONE);
    }

    private static void tenDampers() {
        says("DAMPERS 0, 1, .. (10 at most)");
        FootBridges x = new FootBridges();
        due("build(0, true) at first", x.build(0, true), UNKNOWN);
        for (int i = 0; i < 10; i++) {
            due("the number of a new one", x.damper(1, 0, 0), i);
            due("build(" + i + ", true)", x.build(i, true), 0);
            due("build(" + (i + 1) + ", true)", x.build(i + 1, true), UNKNOWN);
        }
        due("an eleventh", x.damper(1, 0, 0), FULL);
        due("count(1)", x.count(1), 10);
        due("count(2)", x.count(2), 10);
    }

    private static void rangeOfDampers() {
        says("ADD (1 .. 500), PRICE (0 .. 9999), LOAD (0 .. 99); BUILT or not");
        FootBridges x = new FootBridges();
        for (int add : new int[] {0, 501, -1, LOW, HIGH}) {
            due("damper(" + add + ", 0, 0)", x.damper(add, 0, 0), BAD);
        }
        for (int price : new int[] {-1, 10000, LOW, HIGH}) {
            due("damper(1, " + price + ", 0)", x.damper(1, price, 0), BAD);
        }
        for (int load : new int[] {-1, 100, LOW, HIGH}) {
            due("damper(1, 0, " + load + ")", x.damper(1, 0, load), BAD);
        }
        due("the least", x.damper(1, 0, 0), 0);
        due("the most", x.damper(500, 9999, 99), 1);
        x.build(0, true);
        due("1 is added", x.net(0), 99989);
        x.build(1, true);
        due("500 are added", x.net(0), 99489);
        // The most walkers push 3956: less 1, seven times 500 are too few, eight are enough.
        FootBridges most = ofNet(-1);
        for (int sort = 0; sort < 4; sort++) {
            most.sort(sort, 99, 0, 9999);
            most.crowd(sort, 999);
        }
        for (int i = 0; i < 10; i++) {
            most.damper(500, 9999, 0);
        }
        boughtAre("ten of the most", most, 79992, 0, 1, 2, 3, 4, 5, 6, 7);
    }

    private static void whateverIsBuilt() {
        says("of all sets of DAMPERS (whatever is BUILT now)");
        FootBridges x = ofNetTen();
        x.damper(6, 3, 0);
        x.damper(5, 4, 0);
        for (int built = 0; built < 4; built++) {
            x.build(0, built % 2 == 1);
            x.build(1, built / 2 == 1);
            boughtAre("built " + built, x, 7, 0, 1);
        }
        due("what is bought is not built by that", x.build(0, false), 1);
        boughtAre("behind it", x, 7, 0, 1);
        due("what is bought is not built by that", x.build(0, false), 0);
        // The set of none is one of all sets.
        boughtAre("nothing is needed", ofNet(-1), 0);
        FootBridges still = ofNet(-1);
        still.damper(500, 0, 0);
        boughtAre("nothing is needed, though one is for nothing", still, 0);
        FootBridges none = ofNetTen();
        boughtAre("no damper at all", none, NONE);
        // All ten are one of all sets, too.
        FootBridges all = ofNet(9);
        for (int i = 0; i < 10; i++) {
            all.damper(1, 9999, 10);
        }
        boughtAre("all ten", all, 99990, 0, 1, 2, 3, 4, 5, 6, 7, 8, 9);
    }

    private static void rangeOfCarry() {
        says("with LOADS of CARRY (0 .. 999; 100 at first) at most together");
        FootBridges x = ofNetTen();
        x.damper(6, 1, 50);
        x.damper(5, 1, 50);
        x.damper(11, 9, 0);
        for (int v : new int[] {-1, 1000, LOW, HIGH}) {
            due("rule(2, " + v + ")", x.rule(2, v), BAD);
        }
        boughtAre("100 of 100 at first", x, 2, 0, 1);
        due("rule(2, 99)", x.rule(2, 99), 100);
        boughtAre("100 of 99", x, 9, 2);
        due("rule(2, 0)", x.rule(2, 0), 99);
        boughtAre("0 of 0", x, 9, 2);
        due("rule(2, 999)", x.rule(2, 999), 0);
        boughtAre("100 of 999", x, 2, 0, 1);
        due("rule(2, 999)", x.rule(2, 999), 999);
        FootBridges all = ofNet(9);
        for (int i = 0; i < 10; i++) {
            all.damper(1, 1, 99);
        }
        all.rule(2, 989);
        boughtAre("990 of 989", all, NONE);
        all.rule(2, 990);
        boughtAre("990 of 990", all, 10, 0, 1, 2, 3, 4, 5, 6, 7, 8, 9);
    }

    private static void smallSettlesByIt() {
        says("by which SMALL SETTLES");
        FootBridges x = ofNetTen();
        x.damper(10, 1, 0);
        boughtAre("a net of 0 does not settle", x, NONE);
        x.damper(11, 8, 0);
        boughtAre("a net of -1 settles", x, 8, 1);
        // Walkers from 100 on alone: SMALL below that needs nothing, but one of 100 does.
        x.sort(0, 50, 100, 9999);
        boughtAre("SMALL far below the LOCK", x, 0);
        x.rule(1, 99);
        boughtAre("SMALL below the LOCK", x, 0);
        x.rule(1, 100);
        boughtAre("SMALL at the LOCK", x, 8, 1);
        x.rule(0, 2);
        boughtAre("11 less 2 and 10", x, 1, 0);
        x.rule(0, 11);
        boughtAre("11 less 11 does not settle", x, 1, 0);
        x.rule(0, 12);
        boughtAre("11 less 12 settles", x, 0);
    }

    private static void leastPrice() {
        says("the one of least PRICE");
        FootBridges x = ofNetTen();
        x.damper(11, 9999, 0);
        boughtAre("the only one", x, 9999, 0);
        x.damper(500, 9998, 0);
        boughtAre("a cheaper one", x, 9998, 1);
        x.damper(1, 0, 0);
        x.damper(5, 4999, 0);
        x.damper(5, 4998, 0);
        boughtAre("three together are cheaper than one", x, 9997, 2, 3, 4);
        x.damper(11, 0, 0);
        boughtAre("one for nothing", x, 0, 5);
    }

    private static void fewestOfLike() {
        says("of like ones the fewest");
        FootBridges x = ofNetTen();
        x.damper(5, 2, 0);
        x.damper(3, 2, 0);
        x.damper(3, 2, 0);
        boughtAre("three", x, 6, 0, 1, 2);
        x.damper(6, 4, 0);
        boughtAre("two of like price", x, 6, 0, 3);
        x.damper(11, 6, 0);
        boughtAre("one of like price", x, 6, 4);
        x.damper(1, 0, 0);
        boughtAre("none for nothing is taken along", x, 6, 4);
    }

    private static void firstByNumbers() {
        says("of like ones the first by numbers");
        FootBridges x = ofNetTen();
        x.damper(11, 5, 0);
        x.damper(11, 5, 0);
        boughtAre("0 ahead of 1", x, 5, 0);
        // 0 and 3 carry as much as 1 and 2, and cost as much; 0 and 2 are too heavy together.
        FootBridges y = ofNetTen();
        y.damper(5, 1, 50);
        y.damper(4, 2, 49);
        y.damper(7, 3, 51);
        y.damper(6, 4, 50);
        boughtAre("0 3 ahead of 1 2", y, 5, 0, 3);
        // Of threes: 0 1 4 ahead of 0 2 3.
        FootBridges z = ofNetTen();
        int[] adds = {5, 1, 3, 3, 5};
        int[] prices = {1, 1, 2, 2, 3};
        for (int i = 0; i < 5; i++) {
            z.damper(adds[i], prices[i], 0);
        }
        boughtAre("0 1 4 ahead of 0 2 3", z, 5, 0, 1, 4);
    }

    // ======== promises 17 to 20

    private static void promisesOfDampers() {
        newDamper();
        builtAsItWas();
        priceOfTheCheapest();
        boughtOne();
    }

    private static void newDamper() {
        says("A DAMPER, not BUILT: its number. BAD; FULL.");
        FootBridges x = new FootBridges();
        for (int i = 0; i < 10; i++) {
            due("its number", x.damper(500, 0, 0), i);
            due("not built", x.count(2), 0);
            due("not built", x.build(i, false), 0);
        }
        due("it adds nothing", x.net(0), 99990);
        due("BAD when full", x.damper(0, 0, 0), BAD);
        due("FULL", x.damper(500, 0, 0), FULL);
        due("a DAMPER that is BUILT leaves no room", x.build(9, true) + x.damper(1, 0, 0), FULL);
    }

    private static void builtAsItWas() {
        says("It is BUILT, or not: how it was: 1, 0. UNKNOWN.");
        FootBridges x = new FootBridges();
        due("none is there", x.build(0, true), UNKNOWN);
        x.damper(7, 0, 0);
        x.damper(8, 0, 0);
        due("build(0, false)", x.build(0, false), 0);
        due("build(0, true)", x.build(0, true), 0);
        due("build(0, true)", x.build(0, true), 1);
        due("it adds once", x.net(0), 99983);
        due("the other is not", x.build(1, true), 0);
        due("both add", x.net(0), 99975);
        due("build(0, false)", x.build(0, false), 1);
        due("build(0, false)", x.build(0, false), 0);
        due("one adds", x.net(0), 99982);
        for (int damper : new int[] {-1, 2, 9, 10, LOW, HIGH}) {
            due("build(" + damper + ", true)", x.build(damper, true), UNKNOWN);
            due("build(" + damper + ", false)", x.build(damper, false), UNKNOWN);
        }
        due("count(2)", x.count(2), 1);
    }

    private static void priceOfTheCheapest() {
        says("PRICE of THE CHEAPEST; NONE.");
        due("nothing is needed", new FootBridges().cheapest(), 0);
        FootBridges x = ofNetTen();
        due("none is there", x.cheapest(), NONE);
        x.damper(10, 0, 0);
        due("none is enough", x.cheapest(), NONE);
        x.damper(11, 0, 99);
        due("for nothing", x.cheapest(), 0);
        x.rule(2, 98);
        due("too heavy", x.cheapest(), NONE);
        x.damper(11, 9999, 98);
        due("dear", x.cheapest(), 9999);
    }

    private static void boughtOne() {
        says("The i-th DAMPER of it; NONE.");
        FootBridges x = ofNetTen();
        due("there is no CHEAPEST", x.bought(0), NONE);
        x.damper(1, 9, 0);
        x.damper(6, 1, 0);
        x.damper(1, 9, 0);
        x.damper(5, 1, 0);
        int[] numbers = {-1, 0, 1, 2, 3, 9, 10, 31, 32, LOW, HIGH};
        int[] bought = {NONE, 1, 3, NONE, NONE, NONE, NONE, NONE, NONE, NONE, NONE};
        for (int i = 0; i < numbers.length; i++) {
            due("bought(" + numbers[i] + ")", x.bought(numbers[i]), bought[i]);
        }
        x.crowd(0, 0);
        due("nothing is needed", x.bought(0), NONE);
        x.crowd(0, 22);
        due("it is needed again", x.bought(1), 3);
    }
}
