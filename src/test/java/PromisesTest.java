// One method for each promise of the document: ordinary inputs, the edges that it names, and wrong inputs.
// No heap is used for more than 512 calls, as nothing is promised after them.
public final class PromisesTest {
    // Outside 0 .. 15; 32, 48 and -32 would hit numbers in use if a shift distance were not looked at first.
    private static final int[] NO_NUMBERS = {
        -1, -2, -16, -32, 16, 17, 31, 32, 33, 48, 64, Integer.MAX_VALUE, Integer.MIN_VALUE
    };

    private static int wrong = 0;
    private static String promise = "";

    private static void due(String what, int got, int want) {
        if (got != want) {
            wrong++;
            System.out.println(promise + ": " + what + " answered " + got + ", due is " + want);
        }
    }

    private static void due(String what, boolean got, boolean want) {
        due(what, got ? 1 : 0, want ? 1 : 0);
    }

    private static int set(int... objects) {
        int set = 0;
        for (int x : objects) {
            set |= 1 << x;
        }
        return set;
    }

    private static HeapView heap(int... sizes) {
        HeapView h = new HeapView(16);
        for (int size : sizes) {
            h.make(size);
        }
        return h;
    }

    private static void chain(HeapView h, int... objects) {
        for (int i = 0; i + 1 < objects.length; i++) {
            h.refer(objects[i], objects[i + 1]);
        }
    }

    // Root 0 (size 1) with two ways, 1 (2) and 2 (4), to 3 (8), which alone leads to 4 (16); 5 (32) is dead.
    private static HeapView diamond() {
        HeapView h = heap(1, 2, 4, 8, 16, 32);
        h.setRoot(0, true);
        chain(h, 0, 1, 3, 4);
        chain(h, 0, 2, 3);
        h.refer(5, 4);
        return h;
    }

    // Which references are there: each one is taken away and put back.
    private static int referencesFrom(HeapView h, int a) {
        int set = 0;
        for (int b = 0; b < 16; b++) {
            if (h.forget(a, b)) {
                set |= 1 << b;
                h.refer(a, b);
            }
        }
        return set;
    }

    private static void diamondIsUnchanged(String after, HeapView h) {
        due("objects() after " + after, h.objects(), set(0, 1, 2, 3, 4, 5));
        due("live() after " + after, h.live(), set(0, 1, 2, 3, 4));
        due("retained(0) after " + after, h.retained(0), 31);
        due("references of 0 after " + after, referencesFrom(h, 0), set(1, 2));
        due("references of 1 after " + after, referencesFrom(h, 1), set(3));
        due("references of 2 after " + after, referencesFrom(h, 2), set(3));
        due("references of 3 after " + after, referencesFrom(h, 3), set(4));
        due("references of 4 after " + after, referencesFrom(h, 4), 0);
        due("references of 5 after " + after, referencesFrom(h, 5), set(4));
    }

    private static void newObject() {
        int[] capacities = {Integer.MIN_VALUE, -1, 0, 1, 2, 7, 15, 16, 17, 32, 33, Integer.MAX_VALUE};
        int[] places = {1, 1, 1, 1, 2, 7, 15, 16, 16, 16, 16, 16};
        for (int i = 0; i < capacities.length; i++) {
            HeapView h = new HeapView(capacities[i]);
            due("objects() of a new one", h.objects(), 0);
            due("live() of a new one", h.live(), 0);
            due("suspect(0) of a new one", h.suspect(0), HeapView.NONE);
            due("sweep() of a new one", h.sweep(), 0);
            for (int x = 0; x < places[i]; x++) {
                due("make with capacity " + capacities[i], h.make(1), x);
            }
            due("make beyond capacity " + capacities[i], h.make(1), HeapView.NONE);
            due("objects() with capacity " + capacities[i], h.objects(), (1 << places[i]) - 1);
        }
        HeapView one = heap(5);
        HeapView other = new HeapView(16);
        due("objects() of another one", other.objects(), 0);
        due("objects() of the first one", one.objects(), 1);
    }

    private static void make() {
        HeapView h = new HeapView(3);
        int[] wrongSizes = {0, -1, -100, 101, 1000, Integer.MIN_VALUE, Integer.MAX_VALUE};
        for (int size : wrongSizes) {
            due("make(" + size + ")", h.make(size), HeapView.NONE);
            due("objects() after make(" + size + ")", h.objects(), 0);
        }
        due("make(1)", h.make(1), 0);
        due("make(100)", h.make(100), 1);
        due("make(50)", h.make(50), 2);
        due("live() of objects that are no roots", h.live(), 0);
        for (int x = 0; x < 3; x++) {
            due("references of a new object", referencesFrom(h, x), 0);
            h.setRoot(x, true);
        }
        due("size 1", h.retained(0), 1);
        due("size 100", h.retained(1), 100);
        due("make when full", h.make(7), HeapView.NONE);
        due("objects() after make when full", h.objects(), set(0, 1, 2));
        due("retained(0) after make when full", h.retained(0), 1);
        due("retained(2) after make when full", h.retained(2), 50);
        h.destroy(1);
        due("make(0) with a free number", h.make(0), HeapView.NONE);
        due("make takes the free number", h.make(9), 1);
        h.setRoot(1, true);
        due("size of the second holder", h.retained(1), 9);
        h.destroy(2);
        h.destroy(0);
        due("make takes the least free number", h.make(3), 0);
        due("make takes the next free number", h.make(4), 2);
    }

    private static void destroy() {
        for (int x : NO_NUMBERS) {
            HeapView h = diamond();
            due("destroy(" + x + ")", h.destroy(x), false);
            diamondIsUnchanged("destroy(" + x + ")", h);
        }
        HeapView h = diamond();
        due("destroy(6)", h.destroy(6), false);
        diamondIsUnchanged("destroy(6)", h);
        h.refer(3, 3);
        due("destroy(3)", h.destroy(3), true);
        due("objects()", h.objects(), set(0, 1, 2, 4, 5));
        due("live()", h.live(), set(0, 1, 2));
        due("destroy(3) again", h.destroy(3), false);
        due("make", h.make(10), 3);
        due("references from the old 3", referencesFrom(h, 3), 0);
        due("references from 1 to the old 3", referencesFrom(h, 1), 0);
        due("references from 2 to the old 3", referencesFrom(h, 2), 0);
        due("references of 0", referencesFrom(h, 0), set(1, 2));
        due("references of 5", referencesFrom(h, 5), set(4));
        due("destroy of a root", h.destroy(0), true);
        due("live() without the root", h.live(), 0);
        due("make", h.make(10), 0);
        due("live(): the new 0 is no root", h.live(), 0);
        due("destroy of a dead object", h.destroy(5), true);
        due("objects()", h.objects(), set(0, 1, 2, 3, 4));
    }

    private static void setRoot() {
        for (int x : NO_NUMBERS) {
            HeapView h = diamond();
            due("setRoot(" + x + ", true)", h.setRoot(x, true), false);
            due("setRoot(" + x + ", false)", h.setRoot(x, false), false);
            diamondIsUnchanged("setRoot(" + x + ")", h);
        }
        HeapView h = diamond();
        due("setRoot(6, true)", h.setRoot(6, true), false);
        due("setRoot(6, false)", h.setRoot(6, false), false);
        due("make(1)", h.make(1), 6);
        due("live(): 6 is no root", h.live(), set(0, 1, 2, 3, 4));
        due("setRoot(5, true)", h.setRoot(5, true), true);
        due("live()", h.live(), set(0, 1, 2, 3, 4, 5));
        due("setRoot(5, true) again", h.setRoot(5, true), true);
        due("live()", h.live(), set(0, 1, 2, 3, 4, 5));
        due("setRoot(0, false)", h.setRoot(0, false), true);
        due("live()", h.live(), set(4, 5));
        due("setRoot(0, false) again", h.setRoot(0, false), true);
        due("live()", h.live(), set(4, 5));
        due("setRoot(15, true)", h.setRoot(15, true), false);
    }

    private static void refer() {
        for (int x : NO_NUMBERS) {
            HeapView h = diamond();
            due("refer(0, " + x + ")", h.refer(0, x), false);
            due("refer(" + x + ", 5)", h.refer(x, 5), false);
            due("refer(" + x + ", " + x + ")", h.refer(x, x), false);
            diamondIsUnchanged("refer with " + x, h);
        }
        HeapView h = diamond();
        due("refer(0, 6)", h.refer(0, 6), false);
        due("refer(6, 0)", h.refer(6, 0), false);
        due("make(1)", h.make(1), 6);
        due("references of 6", referencesFrom(h, 6), 0);
        due("references of 0", referencesFrom(h, 0), set(1, 2));
        due("refer(4, 5)", h.refer(4, 5), true);
        due("live()", h.live(), set(0, 1, 2, 3, 4, 5));
        due("refer is one way", h.forget(4, 3), false);
        due("refer(4, 5) again", h.refer(4, 5), true);
        due("forget(4, 5)", h.forget(4, 5), true);
        due("forget(4, 5): there was one only", h.forget(4, 5), false);
        due("refer(5, 5)", h.refer(5, 5), true);
        due("references of 5", referencesFrom(h, 5), set(4, 5));
        due("live()", h.live(), set(0, 1, 2, 3, 4));
        HeapView full = heap(1, 1, 1, 1, 1, 1, 1, 1, 1, 1, 1, 1, 1, 1, 1, 1);
        due("refer(15, 0)", full.refer(15, 0), true);
        due("refer(0, 15)", full.refer(0, 15), true);
        due("references of 15", referencesFrom(full, 15), set(0));
        due("references of 0", referencesFrom(full, 0), set(15));
    }

    private static void forget() {
        for (int x : NO_NUMBERS) {
            HeapView h = diamond();
            due("forget(0, " + x + ")", h.forget(0, x), false);
            due("forget(" + x + ", 1)", h.forget(x, 1), false);
            due("forget(" + x + ", " + x + ")", h.forget(x, x), false);
            diamondIsUnchanged("forget with " + x, h);
        }
        HeapView h = diamond();
        due("forget against the way", h.forget(1, 0), false);
        due("forget of none", h.forget(0, 3), false);
        due("forget of none to itself", h.forget(0, 0), false);
        due("forget to no object", h.forget(0, 6), false);
        due("forget from no object", h.forget(6, 0), false);
        diamondIsUnchanged("forget of none", h);
        due("forget(1, 3)", h.forget(1, 3), true);
        due("references of 1", referencesFrom(h, 1), 0);
        due("references of 2", referencesFrom(h, 2), set(3));
        due("live()", h.live(), set(0, 1, 2, 3, 4));
        due("forget(1, 3) again", h.forget(1, 3), false);
        due("forget(2, 3)", h.forget(2, 3), true);
        due("live()", h.live(), set(0, 1, 2));
        h.refer(0, 0);
        due("forget(0, 0)", h.forget(0, 0), true);
        due("references of 0", referencesFrom(h, 0), set(1, 2));
        h.refer(3, 4);
        h.refer(4, 3);
        due("forget(3, 4)", h.forget(3, 4), true);
        due("the other direction stays", h.forget(4, 3), true);
    }

    private static void objects() {
        HeapView h = new HeapView(16);
        for (int x = 0; x < 16; x++) {
            h.make(1);
            due("objects()", h.objects(), (1 << (x + 1)) - 1);
        }
        due("all objects", h.objects(), 65535);
        h.destroy(0);
        h.destroy(15);
        h.destroy(7);
        due("objects()", h.objects(), 65535 - 1 - 32768 - 128);
    }

    private static void live() {
        HeapView h = heap(1, 1, 1, 1, 1, 1, 1, 1, 1, 1, 1, 1, 1, 1, 1, 1);
        due("live() without roots", h.live(), 0);
        for (int x = 15; x > 0; x--) {
            h.refer(x, x - 1);
        }
        due("live() without roots", h.live(), 0);
        h.setRoot(15, true);
        due("live() of the longest chain", h.live(), 65535);
        h.setRoot(15, false);
        h.setRoot(7, true);
        due("live()", h.live(), 255);
        h.setRoot(9, true);
        due("live() with two roots", h.live(), 1023);
        h.refer(0, 15);
        due("live() around the ring", h.live(), 65535);
        h.setRoot(7, false);
        h.setRoot(9, false);
        due("live() of a ring without roots", h.live(), 0);
    }

    private static void keeper() {
        HeapView h = diamond();
        int[] want = {HeapView.NONE, 0, 0, 0, 3, HeapView.DEAD};
        for (int x = 0; x < want.length; x++) {
            due("keeper(" + x + ")", h.keeper(x), want[x]);
        }
        due("keeper of no object", h.keeper(6), HeapView.DEAD);
        for (int x : NO_NUMBERS) {
            due("keeper(" + x + ")", h.keeper(x), HeapView.DEAD);
        }
        h.refer(4, 0);
        due("keeper of a root in a ring", h.keeper(0), HeapView.NONE);
        h.setRoot(3, true);
        due("keeper of a root", h.keeper(3), HeapView.NONE);
        due("keeper(4)", h.keeper(4), 3);
        due("keeper(1)", h.keeper(1), 0);
        h.refer(1, 4);
        due("keeper of one with two ways", h.keeper(4), HeapView.NONE);
        due("keeper with a greater number than its object", keeperOfBackward(), 9);
    }

    private static int keeperOfBackward() {
        HeapView h = heap(1, 1, 1, 1, 1, 1, 1, 1, 1, 1, 1, 1);
        h.setRoot(4, true);
        chain(h, 4, 11, 9, 2);
        chain(h, 9, 10, 2);
        return h.keeper(2);
    }

    private static void dominates() {
        HeapView h = diamond();
        int[] dominators = {set(0), set(0, 1), set(0, 2), set(0, 3), set(0, 3, 4), 0};
        for (int x = 0; x < dominators.length; x++) {
            for (int a = 0; a < dominators.length; a++) {
                boolean want = ((dominators[x] >> a) & 1) != 0;
                due("dominates(" + a + ", " + x + ")", h.dominates(a, x), want);
            }
        }
        due("dominates(0, 6)", h.dominates(0, 6), false);
        due("dominates(6, 0)", h.dominates(6, 0), false);
        due("dominates(6, 6)", h.dominates(6, 6), false);
        for (int x : NO_NUMBERS) {
            due("dominates(0, " + x + ")", h.dominates(0, x), false);
            due("dominates(" + x + ", 0)", h.dominates(x, 0), false);
            due("dominates(" + x + ", " + x + ")", h.dominates(x, x), false);
        }
        h.setRoot(2, true);
        due("dominates(0, 3) with a second root", h.dominates(0, 3), false);
        due("dominates(0, 1) with a second root", h.dominates(0, 1), true);
        due("dominates(3, 4) with a second root", h.dominates(3, 4), true);
    }

    private static void kept() {
        HeapView h = diamond();
        int[] want = {set(0, 1, 2, 3, 4), set(1), set(2), set(3, 4), set(4), 0, 0};
        for (int x = 0; x < want.length; x++) {
            due("kept(" + x + ")", h.kept(x), want[x]);
        }
        for (int x : NO_NUMBERS) {
            due("kept(" + x + ")", h.kept(x), 0);
        }
        diamondIsUnchanged("kept", h);
        h.forget(2, 3);
        due("kept(1) as the only way", h.kept(1), set(1, 3, 4));
        h.refer(4, 5);
        due("kept(3) with one more", h.kept(3), set(3, 4, 5));
        h.refer(3, 0);
        due("kept(3): not a root that it refers to", h.kept(3), set(3, 4, 5));
    }

    private static void retained() {
        HeapView h = diamond();
        int[] want = {31, 2, 4, 24, 16, 0, 0};
        for (int x = 0; x < want.length; x++) {
            due("retained(" + x + ")", h.retained(x), want[x]);
        }
        for (int x : NO_NUMBERS) {
            due("retained(" + x + ")", h.retained(x), 0);
        }
        HeapView most = new HeapView(16);
        for (int x = 0; x < 16; x++) {
            most.make(100);
            most.refer(15, x);
            most.refer(0, x);
        }
        most.setRoot(0, true);
        most.refer(0, 15);
        due("the greatest retained size", most.retained(0), 1600);
        due("retained(15) beside it", most.retained(15), 100);
    }

    private static void depth() {
        HeapView h = diamond();
        int[] want = {0, 1, 1, 1, 2, HeapView.DEAD, HeapView.DEAD};
        for (int x = 0; x < want.length; x++) {
            due("depth(" + x + ")", h.depth(x), want[x]);
        }
        for (int x : NO_NUMBERS) {
            due("depth(" + x + ")", h.depth(x), HeapView.DEAD);
        }
        HeapView chain = heap(1, 1, 1, 1, 1, 1, 1, 1, 1, 1, 1, 1, 1, 1, 1, 1);
        chain.setRoot(15, true);
        for (int x = 15; x > 0; x--) {
            chain.refer(x, x - 1);
        }
        for (int x = 0; x < 16; x++) {
            due("depth(" + x + ") in the longest chain", chain.depth(x), 15 - x);
        }
        chain.setRoot(5, true);
        due("depth of a second root", chain.depth(5), 0);
        due("depth(0) below the second root", chain.depth(0), 5);
    }

    private static void common() {
        HeapView h = diamond();
        due("common(1, 2)", h.common(1, 2), 0);
        due("common(1, 4)", h.common(1, 4), 0);
        due("common(3, 4)", h.common(3, 4), 3);
        due("common(4, 3)", h.common(4, 3), 3);
        due("common(4, 4)", h.common(4, 4), 4);
        due("common(0, 0)", h.common(0, 0), 0);
        due("common(0, 4)", h.common(0, 4), 0);
        due("common(4, 5)", h.common(4, 5), HeapView.DEAD);
        due("common(5, 4)", h.common(5, 4), HeapView.DEAD);
        due("common(5, 5)", h.common(5, 5), HeapView.DEAD);
        due("common(0, 6)", h.common(0, 6), HeapView.DEAD);
        due("common(6, 0)", h.common(6, 0), HeapView.DEAD);
        for (int x : NO_NUMBERS) {
            due("common(0, " + x + ")", h.common(0, x), HeapView.DEAD);
            due("common(" + x + ", 0)", h.common(x, 0), HeapView.DEAD);
            due("common(" + x + ", " + x + ")", h.common(x, x), HeapView.DEAD);
        }
        h.setRoot(5, true);
        due("common(3, 5)", h.common(3, 5), HeapView.NONE);
        due("common(3, 4) with a second way to 4", h.common(3, 4), HeapView.NONE);
        due("common(4, 4) with a second way to 4", h.common(4, 4), 4);
        HeapView deep = heap(1, 1, 1, 1, 1, 1);
        deep.setRoot(5, true);
        chain(deep, 5, 0, 4, 1);
        chain(deep, 4, 3, 2);
        due("common of two branches far down", deep.common(1, 2), 4);
    }

    private static void suspect() {
        HeapView h = diamond();
        int[] order = {0, 3, 4, 2, 1};
        for (int k = 0; k < order.length; k++) {
            due("suspect(" + k + ")", h.suspect(k), order[k]);
        }
        due("suspect(5)", h.suspect(5), HeapView.NONE);
        for (int k : NO_NUMBERS) {
            due("suspect(" + k + ")", h.suspect(k), HeapView.NONE);
        }
        diamondIsUnchanged("suspect", h);
        HeapView equal = heap(2, 7, 7, 2, 9, 7);
        due("suspect(0) without a live object", equal.suspect(0), HeapView.NONE);
        for (int x = 5; x >= 0; x--) {
            equal.setRoot(x, x != 2);
        }
        int[] equalOrder = {4, 1, 5, 0, 3, HeapView.NONE};
        for (int k = 0; k < equalOrder.length; k++) {
            due("suspect(" + k + ") among equals", equal.suspect(k), equalOrder[k]);
        }
        HeapView full = heap(1, 1, 1, 1, 1, 1, 1, 1, 1, 1, 1, 1, 1, 1, 1, 1);
        for (int x = 0; x < 16; x++) {
            full.setRoot(x, true);
        }
        for (int k = 0; k < 16; k++) {
            due("suspect(" + k + ") among sixteen", full.suspect(k), k);
        }
        due("suspect(16) among sixteen", full.suspect(16), HeapView.NONE);
        due("suspect(-1) among sixteen", full.suspect(-1), HeapView.NONE);
    }

    private static void sweep() {
        HeapView h = diamond();
        h.make(64);
        h.refer(6, 5);
        h.refer(5, 6);
        h.refer(6, 0);
        due("sweep()", h.sweep(), 2);
        diamondIsUnchangedBut5(h);
        due("sweep() again", h.sweep(), 0);
        due("make after sweep", h.make(1), 5);
        due("make after sweep", h.make(1), 6);
        due("references of the new 5", referencesFrom(h, 5), 0);
        due("references of the new 6", referencesFrom(h, 6), 0);
        h.setRoot(0, false);
        due("sweep() without roots", h.sweep(), 7);
        due("objects() after that", h.objects(), 0);
        due("sweep() of nothing", h.sweep(), 0);
        HeapView full = heap(1, 1, 1, 1, 1, 1, 1, 1, 1, 1, 1, 1, 1, 1, 1, 1);
        due("sweep() of sixteen", full.sweep(), 16);
        due("make after that", full.make(1), 0);
    }

    private static void diamondIsUnchangedBut5(HeapView h) {
        due("objects() after sweep", h.objects(), set(0, 1, 2, 3, 4));
        due("live() after sweep", h.live(), set(0, 1, 2, 3, 4));
        due("retained(0) after sweep", h.retained(0), 31);
        due("references of 0 after sweep", referencesFrom(h, 0), set(1, 2));
        due("references of 3 after sweep", referencesFrom(h, 3), set(4));
    }

    public static void main(String[] args) {
        promise = "constants";
        due("NONE", HeapView.NONE, -1);
        due("DEAD", HeapView.DEAD, -2);
        promise = "promise 1";
        newObject();
        promise = "promise 2";
        make();
        promise = "promise 3";
        destroy();
        promise = "promise 4";
        setRoot();
        promise = "promise 5";
        refer();
        promise = "promise 6";
        forget();
        promise = "promise 7";
        objects();
        promise = "promise 8";
        live();
        promise = "promise 9";
        keeper();
        promise = "promise 10";
        dominates();
        promise = "promise 11";
        kept();
        promise = "promise 12";
        retained();
        promise = "promise 13";
        depth();
        promise = "promise 14";
        common();
        promise = "promise 15";
        suspect();
        promise = "promise 16";
        sweep();
        System.out.println(wrong == 0 ? "all answers are as due" : wrong + " answers are not as due");
        if (wrong != 0) {
            System.exit(1);
        }
    }
}
