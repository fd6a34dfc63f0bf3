import java.util.ArrayList;
import java.util.List;
import java.util.function.Function;
import java.util.function.Supplier;

// One test for each sentence of the document that names a boundary case; its label quotes the sentence.
// No heap is used for more than 512 calls, as nothing is promised after them.
public final class BoundariesTest {
    private static final int NONE = -1;
    private static final int DEAD = -2;
    private static final int ALL = 65535;
    private static final int MOST = Integer.MAX_VALUE;
    private static final int LEAST = Integer.MIN_VALUE;

    // Outside 0 .. 15. Those that are 0 .. 15 modulo 16, 32, 256 or 65536 would hit an object
    // if a shift distance or a narrower number type cut them.
    private static final int[] OUTSIDE = {
        LEAST, LEAST + 1, LEAST + 4, -65536, -256, -32, -31, -17, -16, -15, -2, -1,
        16, 17, 20, 31, 32, 33, 36, 47, 64, 256, 260, 65536, 65540, MOST - 1, MOST
    };

    private static String sentence = "";
    private static int wrong = 0;

    private static void due(String what, int got, int want) {
        if (got != want) {
            wrong++;
            System.out.println(sentence + "\n    " + what + " answered " + got + ", due is " + want);
        }
    }

    private static void due(String what, boolean got, boolean want) {
        due(what, got ? 1 : 0, want ? 1 : 0);
    }

    private static void dueAll(String what, int[] got, int... want) {
        due("the number of answers of " + what, got.length, want.length);
        for (int i = 0; i < got.length && i < want.length; i++) {
            due(what + " at " + i, got[i], want[i]);
        }
    }

    private static int set(int... objects) {
        int set = 0;
        for (int x : objects) {
            set |= 1 << x;
        }
        return set;
    }

    private static boolean has(int set, int x) {
        return x >= 0 && x < 16 && (set & 1 << x) != 0;
    }

    private static int[] forEach(int count, Function<Integer, Integer> call) {
        int[] answers = new int[count];
        for (int x = 0; x < count; x++) {
            answers[x] = call.apply(x);
        }
        return answers;
    }

    // ---- heaps to look at ----

    private static HeapView heap(int capacity, int... sizes) {
        HeapView h = new HeapView(capacity);
        for (int size : sizes) {
            h.make(size);
        }
        return h;
    }

    private static HeapView sixteen(int size) {
        HeapView h = new HeapView(16);
        for (int x = 0; x < 16; x++) {
            h.make(size);
        }
        return h;
    }

    private static HeapView roots(HeapView h, int... objects) {
        for (int x : objects) {
            h.setRoot(x, true);
        }
        return h;
    }

    private static HeapView allRoots(HeapView h) {
        for (int x = 0; x < 16; x++) {
            h.setRoot(x, true);
        }
        return h;
    }

    private static HeapView chain(HeapView h, int... objects) {
        for (int i = 0; i + 1 < objects.length; i++) {
            h.refer(objects[i], objects[i + 1]);
        }
        return h;
    }

    // 15 -> 14 -> .. -> 0, each with the next alone.
    private static HeapView longestChain(int size) {
        HeapView h = sixteen(size);
        for (int x = 15; x > 0; x--) {
            h.refer(x, x - 1);
        }
        return h;
    }

    // Live: root 0 with two ways, 1 and 2, to 4, which leads to 7 (refers to itself); root 8. Dead: 6, which refers to 7.
    // 3 and 5 have been held, with references and root marks, and are free again; 9 .. 15 were never held.
    private static HeapView gaps() {
        HeapView h = heap(16, 1, 2, 4, 99, 8, 98, 16, 32, 64);
        roots(h, 0, 3, 5, 8);
        chain(h, 0, 1, 4, 7, 7);
        chain(h, 0, 2, 4);
        h.refer(6, 7);
        chain(h, 2, 3, 5, 6, 3, 3);
        h.destroy(3);
        h.destroy(5);
        return h;
    }

    // Capacity 5 and full: root 4 keeps 2, and 2 keeps 0; 1 and 3 are dead.
    private static HeapView small() {
        HeapView h = roots(heap(5, 10, 20, 30, 40, 50), 4);
        chain(h, 4, 2, 0, 4);
        return chain(h, 3, 1, 2);
    }

    // All 16 numbers: roots 1 and 15, both with a way to 0; 0 -> 2 -> 3 -> .. -> 10; 11 .. 14 are dead.
    private static HeapView full() {
        HeapView h = new HeapView(16);
        for (int x = 0; x < 16; x++) {
            h.make(x + 1);
        }
        roots(h, 1, 15);
        chain(h, 1, 0, 2, 3, 4, 5, 6, 7, 8, 9, 10);
        chain(h, 15, 0);
        return chain(h, 11, 12, 13, 14, 11);
    }

    private static HeapView deadRing() {
        HeapView h = longestChain(3);
        h.refer(0, 15);
        return h;
    }

    private static final class Sample {
        final String name;
        final Supplier<HeapView> build;
        final int objects;
        final int live;
        final int[] reading;

        Sample(String name, Supplier<HeapView> build, int objects, int live) {
            this.name = name;
            this.build = build;
            this.objects = objects;
            this.live = live;
            this.reading = reading(build.get());
        }

        List<Integer> held() {
            return numbers(objects);
        }

        List<Integer> liveOnes() {
            return numbers(live);
        }

        List<Integer> deadOnes() {
            return numbers(objects & ~live);
        }

        List<Integer> notHeld() {
            List<Integer> free = numbers(ALL & ~objects);
            for (int x : OUTSIDE) {
                free.add(x);
            }
            return free;
        }

        List<Integer> notLive() {
            List<Integer> all = deadOnes();
            all.addAll(notHeld());
            return all;
        }

        private static List<Integer> numbers(int set) {
            List<Integer> numbers = new ArrayList<>();
            for (int x = 0; x < 16; x++) {
                if (has(set, x)) {
                    numbers.add(x);
                }
            }
            return numbers;
        }
    }

    private static List<Sample> samples() {
        return List.of(
            new Sample("none", () -> new HeapView(16), 0, 0),
            new Sample("one", () -> roots(heap(0, 7), 0), set(0), set(0)),
            new Sample("gaps", BoundariesTest::gaps, set(0, 1, 2, 4, 6, 7, 8), set(0, 1, 2, 4, 7, 8)),
            new Sample("small", BoundariesTest::small, set(0, 1, 2, 3, 4), set(0, 2, 4)),
            new Sample("full", BoundariesTest::full, ALL, ALL & ~set(11, 12, 13, 14)),
            new Sample("dead ring", BoundariesTest::deadRing, ALL, 0));
    }

    // ---- that nothing has changed ----

    // All that can be told of a heap: its answers, then what new objects on its free numbers find,
    // then, taken apart, each reference, each root mark and each size. The heap is of no use afterwards.
    private static int[] reading(HeapView h) {
        List<Integer> all = new ArrayList<>();
        readAnswers(h, all);
        readFreeNumbers(h, all);
        readReferences(h, all);
        readRootsAndSizes(h, all);
        return all.stream().mapToInt(Integer::intValue).toArray();
    }

    private static void readAnswers(HeapView h, List<Integer> all) {
        all.add(h.objects());
        all.add(h.live());
        for (int x = 0; x < 16; x++) {
            all.add(h.keeper(x));
            all.add(h.kept(x));
            all.add(h.retained(x));
            all.add(h.depth(x));
        }
        for (int k = 0; k < 16; k++) {
            all.add(h.suspect(k));
        }
    }

    private static void readFreeNumbers(HeapView h, List<Integer> all) {
        for (int i = 0; i < 17; i++) {
            all.add(h.make(77));
        }
        all.add(h.objects());
        all.add(h.live());
    }

    private static void readReferences(HeapView h, List<Integer> all) {
        for (int a = 0; a < 16; a++) {
            for (int b = 0; b < 16; b++) {
                all.add(h.forget(a, b) ? 1 : 0);
            }
        }
    }

    private static void readRootsAndSizes(HeapView h, List<Integer> all) {
        all.add(h.live());
        for (int x = 0; x < 16; x++) {
            all.add(h.setRoot(x, true) ? 1 : 0);
            all.add(h.retained(x));
        }
    }

    private static void unchanged(Sample s, String what, HeapView h) {
        int[] got = reading(h);
        for (int i = 0; i < got.length; i++) {
            if (got[i] != s.reading[i]) {
                due("reading " + i + " of '" + s.name + "' after " + what, got[i], s.reading[i]);
                return;
            }
        }
    }

    private static void answersAndChangesNothing(Sample s, String what, Function<HeapView, Integer> call, int want) {
        HeapView h = s.build.get();
        due(what + " on '" + s.name + "'", call.apply(h), want);
        unchanged(s, what, h);
    }

    private static void isRefused(Sample s, String what, Function<HeapView, Boolean> call) {
        answersAndChangesNothing(s, what, h -> call.apply(h) ? 1 : 0, 0);
    }

    private static int referencesFrom(HeapView h, int a) {
        int found = 0;
        for (int b = 0; b < 16; b++) {
            if (h.forget(a, b)) {
                found |= 1 << b;
                h.refer(a, b);
            }
        }
        return found;
    }

    // The samples are what their comments say: what is told of them by hand holds.
    private static void samplesAreAsTold() {
        for (Sample s : samples()) {
            HeapView h = s.build.get();
            due("objects() of '" + s.name + "'", h.objects(), s.objects);
            due("live() of '" + s.name + "'", h.live(), s.live);
        }
        HeapView gaps = gaps();
        dueAll("references of 'gaps'", forEach(9, x -> referencesFrom(gaps, x)),
            set(1, 2), set(4), set(4), 0, set(7), 0, set(7), set(7), 0);
        HeapView small = small();
        dueAll("references of 'small'", forEach(5, x -> referencesFrom(small, x)),
            set(4), set(2), set(0), set(1), set(2));
    }

    // ---- What it is ----

    private static void the512thCall() {
        HeapView h = new HeapView(16);
        int calls = 0;
        while (calls < 500) {
            due("make, call " + (calls + 1), h.make(1 + calls % 100), 0);
            due("destroy, call " + (calls + 2), h.destroy(0), true);
            calls += 2;
        }
        due("call 501", h.make(100), 0);
        due("call 502", h.make(1), 1);
        due("call 503", h.setRoot(0, true), true);
        due("call 504", h.refer(0, 1), true);
        due("call 505", h.live(), set(0, 1));
        due("call 506", h.keeper(1), 0);
        due("call 507", h.retained(0), 101);
        due("call 508", h.suspect(1), 1);
        due("call 509", h.forget(0, 1), true);
        due("call 510", h.sweep(), 1);
        due("call 511", h.make(50), 1);
        due("call 512", h.objects(), set(0, 1));
        HeapView looked = roots(heap(16, 5, 6), 0);
        for (int call = 4; call < 512; call++) {
            due("call " + call, looked.live(), set(0));
        }
        due("the 512th call after looks alone", looked.retained(0), 5);
    }

    // ---- Terms ----

    private static void leastAndGreatestNumber() {
        HeapView h = roots(sixteen(10), 15);
        due("refer(15, 0)", h.refer(15, 0), true);
        due("live()", h.live(), set(0, 15));
        due("keeper(0)", h.keeper(0), 15);
        due("keeper(15)", h.keeper(15), NONE);
        due("dominates(15, 0)", h.dominates(15, 0), true);
        due("dominates(0, 15)", h.dominates(0, 15), false);
        due("kept(15)", h.kept(15), set(0, 15));
        due("kept(0)", h.kept(0), set(0));
        due("retained(15)", h.retained(15), 20);
        due("depth(0)", h.depth(0), 1);
        due("depth(15)", h.depth(15), 0);
        due("common(0, 15)", h.common(0, 15), 15);
        due("common(15, 0)", h.common(15, 0), 15);
        due("suspect(0)", h.suspect(0), 15);
        due("suspect(1)", h.suspect(1), 0);
        due("forget(15, 0)", h.forget(15, 0), true);
        due("live() without the reference", h.live(), set(15));
        due("destroy(15)", h.destroy(15), true);
        due("destroy(0)", h.destroy(0), true);
        due("objects()", h.objects(), ALL & ~set(0, 15));
    }

    private static void referenceToItself() {
        HeapView h = roots(heap(16, 1, 2, 4), 0);
        due("refer(2, 2)", h.refer(2, 2), true);
        due("live(): a reference to itself is no path", h.live(), set(0));
        due("refer(0, 0)", h.refer(0, 0), true);
        h.refer(0, 1);
        due("refer(1, 1)", h.refer(1, 1), true);
        due("live()", h.live(), set(0, 1));
        dueAll("keeper", forEach(3, h::keeper), NONE, 0, DEAD);
        dueAll("kept", forEach(3, h::kept), set(0, 1), set(1), 0);
        dueAll("depth", forEach(3, h::depth), 0, 1, DEAD);
        due("sweep(): 2 goes", h.sweep(), 1);
        due("forget(0, 0)", h.forget(0, 0), true);
        due("forget(0, 0) again", h.forget(0, 0), false);
        due("live() as before", h.live(), set(0, 1));
    }

    private static void atMostOneInEachDirection() {
        HeapView h = heap(16, 1, 1);
        due("refer(0, 1)", h.refer(0, 1), true);
        due("forget(1, 0): the other direction is another one", h.forget(1, 0), false);
        due("refer(1, 0)", h.refer(1, 0), true);
        due("refer(0, 1) again", h.refer(0, 1), true);
        due("refer(0, 1) a third time", h.refer(0, 1), true);
        due("forget(0, 1)", h.forget(0, 1), true);
        due("forget(0, 1) again", h.forget(0, 1), false);
        due("forget(1, 0)", h.forget(1, 0), true);
        due("forget(1, 0) again", h.forget(1, 0), false);
    }

    private static void rootAloneIsAPath() {
        for (int x = 0; x < 16; x++) {
            HeapView h = roots(sixteen(9), x);
            due("live() with root " + x, h.live(), 1 << x);
            due("keeper of root " + x, h.keeper(x), NONE);
            due("depth of root " + x, h.depth(x), 0);
            due("kept of root " + x, h.kept(x), 1 << x);
            due("suspect(0) with root " + x, h.suspect(0), x);
        }
        HeapView below = chain(roots(heap(16, 1, 1, 1), 0, 2), 0, 1, 2);
        due("keeper of a root that others lead to", below.keeper(2), NONE);
        due("dominates(0, 2): 2 alone is a path too", below.dominates(0, 2), false);
        due("kept(0)", below.kept(0), set(0, 1));
    }

    private static void ringWithoutRootIsNotLive() {
        HeapView h = deadRing();
        due("live()", h.live(), 0);
        dueAll("keeper", forEach(16, h::keeper), forEach(16, x -> DEAD));
        h.setRoot(6, true);
        due("live() with one root in the ring", h.live(), ALL);
        due("keeper(6)", h.keeper(6), NONE);
        due("keeper(5)", h.keeper(5), 6);
        due("depth(7): the last one round the ring", h.depth(7), 15);
        due("keeper(15)", h.keeper(15), 0);
    }

    private static void dominatesItself() {
        for (Sample s : samples()) {
            for (int x : s.liveOnes()) {
                due("dominates(" + x + ", " + x + ") on '" + s.name + "'", s.build.get().dominates(x, x), true);
            }
            for (int x : s.notLive()) {
                due("dominates(" + x + ", " + x + ") on '" + s.name + "'", s.build.get().dominates(x, x), false);
            }
        }
    }

    private static void noKeeperWhenNothingElseDominates() {
        HeapView h = roots(heap(16, 1, 1, 1, 1, 1), 0, 1);
        chain(h, 0, 2, 3);
        chain(h, 1, 2);
        due("keeper of one with ways from two roots", h.keeper(2), NONE);
        due("depth of it", h.depth(2), 0);
        due("keeper below it", h.keeper(3), 2);
        h.setRoot(1, false);
        due("keeper when one root is left", h.keeper(2), 0);
        h.setRoot(1, true);
        h.destroy(0);
        due("keeper when the other root is left", h.keeper(2), 1);
    }

    private static void keeperIsDominatedByTheOthers() {
        HeapView up = roots(heap(16, 1, 1, 1, 1), 0);
        chain(up, 0, 1, 2, 3);
        due("keeper(3), numbers going up", up.keeper(3), 2);
        HeapView down = roots(heap(16, 1, 1, 1, 1), 3);
        chain(down, 3, 2, 1, 0);
        due("keeper(0), numbers going down", down.keeper(0), 1);
        HeapView mixed = roots(heap(16, 1, 1, 1, 1, 1, 1, 1), 2);
        chain(mixed, 2, 5, 0, 3, 1);
        chain(mixed, 0, 4, 1, 6, 2);
        dueAll("keeper with a branch", forEach(7, mixed::keeper), 5, 0, NONE, 0, 0, 2, 1);
    }

    // ---- Promise 1 ----

    private static void noObjects() {
        int[] capacities = {LEAST, -1, 0, 1, 8, 16, 17, MOST};
        for (int capacity : capacities) {
            HeapView h = new HeapView(capacity);
            due("objects()", h.objects(), 0);
            due("live()", h.live(), 0);
            due("sweep()", h.sweep(), 0);
            due("suspect(0)", h.suspect(0), NONE);
            due("destroy(0)", h.destroy(0), false);
            due("setRoot(0, true)", h.setRoot(0, true), false);
            due("refer(0, 0)", h.refer(0, 0), false);
            due("forget(0, 0)", h.forget(0, 0), false);
            due("keeper(0)", h.keeper(0), DEAD);
            due("dominates(0, 0)", h.dominates(0, 0), false);
            due("kept(0)", h.kept(0), 0);
            due("retained(0)", h.retained(0), 0);
            due("depth(0)", h.depth(0), DEAD);
            due("common(0, 0)", h.common(0, 0), DEAD);
        }
    }

    private static void holdsSoMany(int capacity, int most) {
        HeapView h = new HeapView(capacity);
        for (int x = 0; x < most; x++) {
            due("make with capacity " + capacity, h.make(1), x);
        }
        due("make when full, capacity " + capacity, h.make(1), NONE);
        due("objects() with capacity " + capacity, h.objects(), (1 << most) - 1);
    }

    private static void capacityTooSmall() {
        int[] capacities = {LEAST, LEAST + 1, LEAST + 8, -65531, -251, -31, -16, -8, -2, -1, 0};
        for (int capacity : capacities) {
            holdsSoMany(capacity, 1);
        }
    }

    private static void capacityTooLarge() {
        int[] capacities = {17, 18, 31, 32, 33, 64, 257, 65537, MOST - 1, MOST};
        for (int capacity : capacities) {
            holdsSoMany(capacity, 16);
        }
    }

    private static void capacityBetween() {
        for (int capacity = 1; capacity <= 16; capacity++) {
            holdsSoMany(capacity, capacity);
        }
    }

    private static void numbersBelowCapacity() {
        HeapView h = small();
        for (int x = 5; x < 16; x++) {
            due("destroy(" + x + ")", h.destroy(x), false);
            due("setRoot(" + x + ", true)", h.setRoot(x, true), false);
            due("refer(4, " + x + ")", h.refer(4, x), false);
        }
        due("destroy(4)", h.destroy(4), true);
        due("make", h.make(1), 4);
        due("make when full again", h.make(1), NONE);
    }

    // ---- Promise 2 ----

    private static void newOneIsNoRoot() {
        HeapView h = allRoots(sixteen(1));
        for (int x = 0; x < 16; x++) {
            h.destroy(x);
            due("make on number " + x + " of a root", h.make(1), x);
            due("live(): the new " + x + " is no root", h.live(), ALL & ~((1 << (x + 1)) - 1));
        }
        HeapView swept = roots(heap(16, 1, 1), 0, 1);
        swept.setRoot(1, false);
        swept.sweep();
        due("make after sweep", swept.make(1), 1);
        due("live() after sweep and make", swept.live(), set(0));
    }

    private static void newOneHasNoReferences() {
        HeapView fresh = sixteen(1);
        dueAll("references of new objects", forEach(16, x -> referencesFrom(fresh, x)), forEach(16, x -> 0));
        HeapView h = heap(16, 1, 1, 1);
        chain(h, 0, 1, 2, 1, 1, 0);
        h.destroy(1);
        due("make on the held number", h.make(1), 1);
        dueAll("references after it", forEach(3, x -> referencesFrom(h, x)), 0, 0, 0);
        roots(h, 0, 2);
        due("live(): nothing leads to the new one", h.live(), set(0, 2));
    }

    private static void newOneHasTheSize() {
        for (int size = 1; size <= 100; size++) {
            HeapView h = roots(heap(16, size), 0);
            due("retained(0), made of size " + size, h.retained(0), size);
            h.destroy(0);
            h.make(101 - size);
            h.setRoot(0, true);
            due("retained(0), made again of size " + (101 - size), h.retained(0), 101 - size);
        }
    }

    private static void leastFreeNumber() {
        HeapView h = sixteen(1);
        int[] gone = {15, 7, 0, 8};
        for (int x : gone) {
            h.destroy(x);
        }
        dueAll("make", forEach(5, i -> h.make(1)), 0, 7, 8, 15, NONE);
        HeapView gaps = gaps();
        dueAll("make with gaps", forEach(4, i -> gaps.make(1)), 3, 5, 9, 10);
        HeapView swept = small();
        swept.sweep();
        dueAll("make after sweep", forEach(3, i -> swept.make(1)), 1, 3, NONE);
    }

    private static void sizeTooSmall() {
        int[] sizes = {0, -1, -2, -50, -100, -156, -65436, LEAST, LEAST + 1, LEAST + 50};
        refuseSizes(sizes);
    }

    private static void sizeTooLarge() {
        int[] sizes = {101, 102, 127, 128, 256, 257, 306, 65537, 65586, MOST, MOST - 1};
        refuseSizes(sizes);
    }

    private static void refuseSizes(int[] sizes) {
        for (Sample s : samples()) {
            for (int size : sizes) {
                answersAndChangesNothing(s, "make(" + size + ")", h -> h.make(size), NONE);
            }
        }
    }

    private static void makeWhenFull() {
        for (Sample s : samples()) {
            if (s.name.equals("none") || s.name.equals("gaps")) {
                continue;
            }
            for (int size : new int[] {1, 50, 100}) {
                answersAndChangesNothing(s, "make(" + size + ")", h -> h.make(size), NONE);
            }
        }
        HeapView h = small();
        h.destroy(1);
        due("make with one number free", h.make(1), 1);
        due("make when full again", h.make(1), NONE);
    }

    // ---- Promise 3 ----

    private static void destroyWithReferences() {
        HeapView h = sixteen(1);
        for (int x = 0; x < 16; x++) {
            h.refer(x, 9);
            h.refer(9, x);
        }
        chain(h, 3, 4);
        due("destroy(9)", h.destroy(9), true);
        due("objects()", h.objects(), ALL & ~set(9));
        due("make", h.make(1), 9);
        due("references from the new 9", referencesFrom(h, 9), 0);
        int left = 0;
        for (int x = 0; x < 16; x++) {
            left |= h.forget(x, 9) ? 1 << x : 0;
        }
        due("references to the new 9", left, 0);
        due("references of 3: others stay", referencesFrom(h, 3), set(4));
    }

    private static void destroyNoObject() {
        for (Sample s : samples()) {
            for (int x : s.notHeld()) {
                isRefused(s, "destroy(" + x + ")", h -> h.destroy(x));
            }
        }
    }

    private static void destroyTwiceAndAll() {
        HeapView h = allRoots(sixteen(1));
        for (int x = 0; x < 16; x++) {
            due("destroy(" + x + ")", h.destroy(x), true);
            due("destroy(" + x + ") again", h.destroy(x), false);
            due("objects()", h.objects(), ALL & ~((1 << (x + 1)) - 1));
        }
        due("live() without objects", h.live(), 0);
        due("make", h.make(1), 0);
    }

    // ---- Promise 4 ----

    private static void setRootTwice() {
        for (Sample s : samples()) {
            for (int x : s.held()) {
                HeapView h = s.build.get();
                due("setRoot(" + x + ", true)", h.setRoot(x, true), true);
                due("setRoot(" + x + ", true) again", h.setRoot(x, true), true);
                due("live() has it", has(h.live(), x), true);
                due("setRoot(" + x + ", false)", h.setRoot(x, false), true);
                due("setRoot(" + x + ", false) again", h.setRoot(x, false), true);
            }
        }
        HeapView h = roots(heap(16, 1, 1), 0, 0);
        h.setRoot(0, false);
        due("live(): set twice, taken once", h.live(), 0);
        h.setRoot(1, false);
        due("live(): no root was made no root", h.live(), 0);
    }

    private static void setRootNoObject() {
        for (Sample s : samples()) {
            for (int x : s.notHeld()) {
                isRefused(s, "setRoot(" + x + ", true)", h -> h.setRoot(x, true));
                isRefused(s, "setRoot(" + x + ", false)", h -> h.setRoot(x, false));
            }
        }
    }

    // ---- Promise 5 ----

    private static void referWhenThereIsOne() {
        Sample gaps = samples().get(2);
        int[][] there = {{0, 1}, {0, 2}, {1, 4}, {2, 4}, {4, 7}, {7, 7}, {6, 7}};
        for (int[] r : there) {
            String what = "refer(" + r[0] + ", " + r[1] + ")";
            answersAndChangesNothing(gaps, what, h -> h.refer(r[0], r[1]) ? 1 : 0, 1);
        }
    }

    private static void referFromNoObject() {
        for (Sample s : samples()) {
            for (int a : s.notHeld()) {
                for (int b : s.held()) {
                    isRefused(s, "refer(" + a + ", " + b + ")", h -> h.refer(a, b));
                }
            }
        }
    }

    private static void referToNoObject() {
        for (Sample s : samples()) {
            for (int b : s.notHeld()) {
                for (int a : s.held()) {
                    isRefused(s, "refer(" + a + ", " + b + ")", h -> h.refer(a, b));
                }
            }
        }
    }

    private static void referWithoutBoth() {
        for (Sample s : samples()) {
            for (int a : s.notHeld()) {
                isRefused(s, "refer(" + a + ", " + a + ")", h -> h.refer(a, a));
                isRefused(s, "refer(" + a + ", 16)", h -> h.refer(a, 16));
                isRefused(s, "refer(-1, " + a + ")", h -> h.refer(-1, a));
            }
        }
    }

    // ---- Promise 6 ----

    private static void forgetWhenThereIsNone() {
        Sample gaps = samples().get(2);
        int[] there = {set(1, 2), set(4), set(4), 0, set(7), 0, set(7), set(7), 0};
        for (int a : gaps.held()) {
            for (int b : gaps.held()) {
                if (!has(there[a], b)) {
                    isRefused(gaps, "forget(" + a + ", " + b + ")", h -> h.forget(a, b));
                }
            }
        }
        HeapView h = gaps();
        due("forget(0, 1)", h.forget(0, 1), true);
        due("forget(0, 1) again", h.forget(0, 1), false);
        due("references of 0", referencesFrom(h, 0), set(2));
    }

    private static void forgetWithoutObject() {
        for (Sample s : samples()) {
            for (int a : s.notHeld()) {
                isRefused(s, "forget(" + a + ", " + a + ")", h -> h.forget(a, a));
                for (int b : s.held()) {
                    isRefused(s, "forget(" + a + ", " + b + ")", h -> h.forget(a, b));
                    isRefused(s, "forget(" + b + ", " + a + ")", h -> h.forget(b, a));
                }
            }
        }
    }

    // ---- Promises 7 and 8 ----

    private static void objectsFromNoneToAll() {
        HeapView h = new HeapView(16);
        due("objects() of none", h.objects(), 0);
        for (int x = 0; x < 16; x++) {
            h.make(1);
            due("objects() with " + (x + 1), h.objects(), (1 << (x + 1)) - 1);
        }
        due("objects() of nothing live", h.objects(), ALL);
        allRoots(h);
        due("objects() of everything live", h.objects(), ALL);
        for (int x = 0; x < 15; x++) {
            h.destroy(x);
        }
        due("objects() with 15 alone", h.objects(), set(15));
        h.destroy(15);
        due("objects() of none again", h.objects(), 0);
    }

    private static void liveFromNoneToAll() {
        due("live() of no objects", new HeapView(16).live(), 0);
        due("live() of all 16, no root", sixteen(1).live(), 0);
        due("live() of all 16, all roots", allRoots(sixteen(1)).live(), ALL);
        due("live() of the longest chain", roots(longestChain(1), 15).live(), ALL);
        due("live() of the end of the longest chain", roots(longestChain(1), 0).live(), set(0));
        HeapView up = roots(sixteen(1), 0);
        for (int x = 0; x < 15; x++) {
            up.refer(x, x + 1);
        }
        due("live() of the longest chain, numbers going up", up.live(), ALL);
        HeapView broken = roots(longestChain(1), 15);
        broken.forget(8, 7);
        due("live() of a broken chain", broken.live(), ALL & ~255);
        broken.destroy(15);
        due("live() after the only root has gone", broken.live(), 0);
        HeapView every = roots(sixteen(1), 11);
        for (int i = 0; i < 256; i++) {
            every.refer(i / 16, i % 16);
        }
        due("live() with every reference", every.live(), ALL);
        every.setRoot(11, false);
        due("live() with every reference, no root", every.live(), 0);
    }

    // ---- Promises 9 to 13 ----

    private static void keeperNone() {
        HeapView gaps = gaps();
        due("keeper of a root", gaps.keeper(0), NONE);
        due("keeper of a root without references", gaps.keeper(8), NONE);
        HeapView full = full();
        due("keeper of one with ways from two roots", full.keeper(0), NONE);
        HeapView all = allRoots(sixteen(1));
        dueAll("keeper, all roots", forEach(16, all::keeper), forEach(16, x -> NONE));
        HeapView tight = roots(sixteen(1), 0);
        for (int i = 0; i < 256; i++) {
            tight.refer(i / 16, i % 16);
        }
        dueAll("keeper, every reference", forEach(16, tight::keeper), forEach(16, x -> x == 0 ? NONE : 0));
    }

    private static void deadAnswers(String name, Function<Sample, List<Integer>> which, int want, Ask ask) {
        for (Sample s : samples()) {
            for (int x : which.apply(s)) {
                answersAndChangesNothing(s, name + "(" + x + ")", h -> ask.of(h, x), want);
            }
        }
    }

    private interface Ask {
        int of(HeapView h, int x);
    }

    private static void keeperDeadNoObject() {
        deadAnswers("keeper", Sample::notHeld, DEAD, HeapView::keeper);
    }

    private static void keeperDeadNotLive() {
        deadAnswers("keeper", Sample::deadOnes, DEAD, HeapView::keeper);
    }

    private static void dominatesWithoutLive() {
        for (Sample s : samples()) {
            for (int other : s.notLive()) {
                for (int x : s.held()) {
                    isRefused(s, "dominates(" + other + ", " + x + ")", h -> h.dominates(other, x));
                    isRefused(s, "dominates(" + x + ", " + other + ")", h -> h.dominates(x, other));
                }
            }
        }
    }

    private static void keptHasItself() {
        for (Sample s : samples()) {
            for (int x : s.liveOnes()) {
                due("kept(" + x + ") on '" + s.name + "' has it", has(s.build.get().kept(x), x), true);
            }
        }
        due("kept of a lone root", roots(heap(16, 1), 0).kept(0), set(0));
        due("kept of the end of a chain", roots(longestChain(1), 15).kept(0), set(0));
    }

    private static void keptFromOneToAll() {
        HeapView h = roots(longestChain(1), 15);
        dueAll("kept", forEach(16, h::kept), forEach(16, x -> (1 << (x + 1)) - 1));
        HeapView all = allRoots(longestChain(1));
        dueAll("kept, all roots", forEach(16, all::kept), forEach(16, x -> 1 << x));
        HeapView gaps = gaps();
        dueAll("kept on 'gaps'", forEach(9, gaps::kept),
            set(0, 1, 2, 4, 7), set(1), set(2), 0, set(4, 7), 0, 0, set(7), set(8));
    }

    private static void keptNoObject() {
        deadAnswers("kept", Sample::notHeld, 0, HeapView::kept);
    }

    private static void keptNotLive() {
        deadAnswers("kept", Sample::deadOnes, 0, HeapView::kept);
    }

    private static void retainedFromLeastToMost() {
        due("the least retained size", roots(heap(16, 1), 0).retained(0), 1);
        due("the greatest retained size", roots(longestChain(100), 15).retained(15), 1600);
        HeapView gaps = gaps();
        dueAll("retained on 'gaps'", forEach(9, gaps::retained), 47, 2, 4, 0, 40, 0, 0, 32, 64);
        HeapView all = allRoots(longestChain(100));
        dueAll("retained, all roots", forEach(16, all::retained), forEach(16, x -> 100));
    }

    private static void retainedNoObject() {
        deadAnswers("retained", Sample::notHeld, 0, HeapView::retained);
    }

    private static void retainedNotLive() {
        deadAnswers("retained", Sample::deadOnes, 0, HeapView::retained);
    }

    private static void depthFromLeastToMost() {
        HeapView h = roots(longestChain(1), 15);
        dueAll("depth", forEach(16, h::depth), forEach(16, x -> 15 - x));
        HeapView all = allRoots(longestChain(1));
        dueAll("depth, all roots", forEach(16, all::depth), forEach(16, x -> 0));
        HeapView full = full();
        dueAll("depth on 'full'", forEach(16, full::depth), 0, 0, 1, 2, 3, 4, 5, 6, 7, 8, 9, DEAD, DEAD, DEAD, DEAD, 0);
    }

    private static void depthNoObject() {
        deadAnswers("depth", Sample::notHeld, DEAD, HeapView::depth);
    }

    private static void depthNotLive() {
        deadAnswers("depth", Sample::deadOnes, DEAD, HeapView::depth);
    }

    // ---- Promise 14 ----

    private static void commonNone() {
        HeapView gaps = gaps();
        for (int x : new int[] {0, 1, 2, 4, 7}) {
            due("common(" + x + ", 8)", gaps.common(x, 8), NONE);
            due("common(8, " + x + ")", gaps.common(8, x), NONE);
        }
        HeapView full = full();
        due("common of the two roots", full.common(1, 15), NONE);
        due("common of a root and what both roots lead to", full.common(1, 10), NONE);
        HeapView all = allRoots(longestChain(1));
        due("common of two roots, one below the other", all.common(15, 14), NONE);
    }

    private static void commonDead() {
        for (Sample s : samples()) {
            for (int other : s.notLive()) {
                answersAndChangesNothing(s, "common(" + other + ") with itself", h -> h.common(other, other), DEAD);
                for (int x : s.held()) {
                    String what = "common of " + other + " and " + x;
                    answersAndChangesNothing(s, what, h -> h.common(other, x), DEAD);
                    answersAndChangesNothing(s, what + ", turned", h -> h.common(x, other), DEAD);
                }
            }
        }
    }

    private static void commonIsOneOfThem() {
        for (Sample s : samples()) {
            for (int x : s.liveOnes()) {
                due("common(" + x + ", " + x + ") on '" + s.name + "'", s.build.get().common(x, x), x);
            }
        }
        HeapView h = roots(longestChain(1), 15);
        for (int x = 0; x < 15; x++) {
            due("common(" + x + ", " + (x + 1) + ")", h.common(x, x + 1), x + 1);
            due("common(" + (x + 1) + ", " + x + ")", h.common(x + 1, x), x + 1);
            due("common(" + x + ", 15)", h.common(x, 15), 15);
            due("common(0, " + x + ")", h.common(0, x), x);
        }
    }

    private static void commonIsTheLastOfThem() {
        HeapView gaps = gaps();
        due("common(1, 2)", gaps.common(1, 2), 0);
        due("common(1, 7)", gaps.common(1, 7), 0);
        due("common(4, 7)", gaps.common(4, 7), 4);
        HeapView h = roots(heap(16, 1, 1, 1, 1, 1, 1), 0);
        chain(h, 0, 3, 1, 2);
        chain(h, 1, 4, 5);
        due("common of two branches below 1", h.common(2, 5), 1);
        due("common of two branches below 1, turned", h.common(5, 2), 1);
        h.refer(3, 5);
        due("common when 5 has a way past 1", h.common(2, 5), 3);
    }

    // ---- Promise 15 ----

    private static void suspectEqualOnes() {
        HeapView all = allRoots(sixteen(100));
        dueAll("suspect, all equal", forEach(17, all::suspect), forEach(17, k -> k < 16 ? k : NONE));
        HeapView h = allRoots(heap(16, 2, 9, 5, 9, 2, 5, 9));
        dueAll("suspect, some equal", forEach(8, h::suspect), 1, 3, 6, 2, 5, 0, 4, NONE);
        HeapView sums = roots(heap(16, 3, 1, 5, 4, 4), 1, 2, 3);
        chain(sums, 1, 4);
        due("equal sums go by number, first", sums.suspect(0), 1);
        due("equal sums go by number, second", sums.suspect(1), 2);
        due("equal sums go by number, third", sums.suspect(2), 3);
        due("equal sums go by number, fourth", sums.suspect(3), 4);
        due("equal sums go by number, no fifth", sums.suspect(4), NONE);
    }

    private static void suspectGreatestFirst() {
        HeapView up = roots(longestChain(1), 15);
        dueAll("suspect down a chain", forEach(16, up::suspect), forEach(16, k -> 15 - k));
        HeapView sized = new HeapView(16);
        for (int x = 0; x < 16; x++) {
            sized.make(85 + x);
        }
        allRoots(sized);
        dueAll("suspect by size", forEach(16, sized::suspect), forEach(16, k -> 15 - k));
        HeapView gaps = gaps();
        dueAll("suspect on 'gaps'", forEach(7, gaps::suspect), 8, 0, 4, 7, 2, 1, NONE);
    }

    private static void suspectOutside() {
        for (Sample s : samples()) {
            int count = Integer.bitCount(s.live);
            for (int k = count; k < 40; k++) {
                int place = k;
                answersAndChangesNothing(s, "suspect(" + k + ")", h -> h.suspect(place), NONE);
            }
            for (int k : OUTSIDE) {
                answersAndChangesNothing(s, "suspect(" + k + ")", h -> h.suspect(k), NONE);
            }
            if (count > 0) {
                due("suspect at the last place is live", has(s.live, s.build.get().suspect(count - 1)), true);
            }
        }
    }

    // ---- Promise 16 ----

    private static void sweepOfNoneAndAll() {
        for (int capacity : new int[] {1, 5, 16}) {
            due("sweep() of no objects", new HeapView(capacity).sweep(), 0);
        }
        HeapView dead = deadRing();
        due("sweep() of nothing live", dead.sweep(), 16);
        due("objects() afterwards", dead.objects(), 0);
        due("sweep() again", dead.sweep(), 0);
        for (int x = 0; x < 16; x++) {
            due("make afterwards", dead.make(1), x);
        }
        dueAll("references afterwards", forEach(16, x -> referencesFrom(dead, x)), forEach(16, x -> 0));
    }

    private static void sweepOfEverythingLive() {
        Sample chain = new Sample("live chain", () -> roots(longestChain(2), 15), ALL, ALL);
        answersAndChangesNothing(chain, "sweep()", HeapView::sweep, 0);
        Sample all = new Sample("all roots", () -> allRoots(sixteen(4)), ALL, ALL);
        answersAndChangesNothing(all, "sweep()", HeapView::sweep, 0);
        answersAndChangesNothing(samples().get(0), "sweep()", HeapView::sweep, 0);
        answersAndChangesNothing(samples().get(1), "sweep()", HeapView::sweep, 0);
    }

    private static void sweepWithReferences() {
        HeapView h = small();
        due("sweep()", h.sweep(), 2);
        due("objects()", h.objects(), set(0, 2, 4));
        due("live()", h.live(), set(0, 2, 4));
        due("retained(4)", h.retained(4), 90);
        due("make", h.make(1), 1);
        due("make", h.make(1), 3);
        dueAll("references", forEach(5, x -> referencesFrom(h, x)), set(4), 0, set(0), 0, set(2));
    }

    private static void sweepCounts() {
        for (int roots = 0; roots <= 16; roots++) {
            HeapView h = sixteen(1);
            for (int x = 0; x < roots; x++) {
                h.setRoot(15 - x, true);
            }
            due("sweep() with " + roots + " live", h.sweep(), 16 - roots);
            due("objects() with " + roots + " live", h.objects(), ALL & ~((1 << (16 - roots)) - 1));
        }
    }

    // ---- all of them ----

    private static void test(String label, Runnable body) {
        sentence = label;
        try {
            body.run();
        } catch (RuntimeException | Error e) {
            wrong++;
            System.out.println(label + "\n    threw " + e);
        }
    }

    private static void termsHold() {
        test("What it is: used for at most 512 calls", BoundariesTest::the512thCall);
        test("Terms: objects hold numbers 0 .. 15", BoundariesTest::leastAndGreatestNumber);
        test("Terms: a reference leads to another one, or to itself", BoundariesTest::referenceToItself);
        test("Terms: at most one in each direction", BoundariesTest::atMostOneInEachDirection);
        test("Terms: a root alone is a path to itself", BoundariesTest::rootAloneIsAPath);
        test("Terms: live when there is a path", BoundariesTest::ringWithoutRootIsNotLive);
        test("Terms: x dominates itself", BoundariesTest::dominatesItself);
        test("Terms: no keeper when nothing but x dominates x", BoundariesTest::noKeeperWhenNothingElseDominates);
        test("Terms: the keeper is dominated by every other", BoundariesTest::keeperIsDominatedByTheOthers);
    }

    private static void changesHold() {
        test("1: no objects", BoundariesTest::noObjects);
        test("1: capacity clamped to 1", BoundariesTest::capacityTooSmall);
        test("1: capacity clamped to 16", BoundariesTest::capacityTooLarge);
        test("1: the greatest number of objects", BoundariesTest::capacityBetween);
        test("1: numbers 0 .. capacity - 1", BoundariesTest::numbersBelowCapacity);
        test("2: not a root", BoundariesTest::newOneIsNoRoot);
        test("2: without references", BoundariesTest::newOneHasNoReferences);
        test("2: of this size (1 .. 100)", BoundariesTest::newOneHasTheSize);
        test("2: the least number that no object holds", BoundariesTest::leastFreeNumber);
        test("2: NONE when size is below 1", BoundariesTest::sizeTooSmall);
        test("2: NONE when size is above 100", BoundariesTest::sizeTooLarge);
        test("2: NONE when capacity objects are there", BoundariesTest::makeWhenFull);
        test("3: with the references from it and to it", BoundariesTest::destroyWithReferences);
        test("3: false when there is no object x", BoundariesTest::destroyNoObject);
        test("3: down to no objects", BoundariesTest::destroyTwiceAndAll);
        test("4: a root, or no root, also when it is one or none", BoundariesTest::setRootTwice);
        test("4: false when there is no object x", BoundariesTest::setRootNoObject);
        test("5: nothing changes when there is one", BoundariesTest::referWhenThereIsOne);
        test("5: false when there is no object a", BoundariesTest::referFromNoObject);
        test("5: false when there is no object b", BoundariesTest::referToNoObject);
        test("5: false when there is no object a nor b", BoundariesTest::referWithoutBoth);
        test("6: false when there is none", BoundariesTest::forgetWhenThereIsNone);
        test("6: false when a or b is no object", BoundariesTest::forgetWithoutObject);
    }

    private static void looksHold() {
        test("7: none, all 16, nothing live, everything live", BoundariesTest::objectsFromNoneToAll);
        test("8: none, all 16, nothing live, everything live", BoundariesTest::liveFromNoneToAll);
        test("9: NONE when x is live and has no keeper", BoundariesTest::keeperNone);
        test("9: DEAD when there is no object x", BoundariesTest::keeperDeadNoObject);
        test("9: DEAD when x is not live", BoundariesTest::keeperDeadNotLive);
        test("10: false when a or x is no object, or not live", BoundariesTest::dominatesWithoutLive);
        test("11: x itself is among them when it is live", BoundariesTest::keptHasItself);
        test("11: from x alone to all", BoundariesTest::keptFromOneToAll);
        test("11: 0 when there is no object x", BoundariesTest::keptNoObject);
        test("11: 0 when x is not live", BoundariesTest::keptNotLive);
        test("12: the sum, from the least to the greatest", BoundariesTest::retainedFromLeastToMost);
        test("12: 0 when there is no object x", BoundariesTest::retainedNoObject);
        test("12: 0 when x is not live", BoundariesTest::retainedNotLive);
        test("13: the number, from the least to the greatest", BoundariesTest::depthFromLeastToMost);
        test("13: DEAD when there is no object x", BoundariesTest::depthNoObject);
        test("13: DEAD when x is not live", BoundariesTest::depthNotLive);
        test("14: NONE when no object dominates both", BoundariesTest::commonNone);
        test("14: DEAD when x or y is no object or is not live", BoundariesTest::commonDead);
        test("14: the answer may be x or y itself", BoundariesTest::commonIsOneOfThem);
        test("14: the one that all others of them dominate", BoundariesTest::commonIsTheLastOfThem);
        test("15: equal ones in the order of their numbers", BoundariesTest::suspectEqualOnes);
        test("15: the greatest first", BoundariesTest::suspectGreatestFirst);
        test("15: NONE when k is not from 0 to live objects - 1", BoundariesTest::suspectOutside);
    }

    private static void sweepHolds() {
        test("16: no objects, nothing live", BoundariesTest::sweepOfNoneAndAll);
        test("16: everything live", BoundariesTest::sweepOfEverythingLive);
        test("16: with the references from and to it", BoundariesTest::sweepWithReferences);
        test("16: answers how many there were", BoundariesTest::sweepCounts);
    }

    public static void main(String[] args) {
        test("the samples of this test", BoundariesTest::samplesAreAsTold);
        termsHold();
        changesHold();
        looksHold();
        sweepHolds();
        System.out.println(wrong == 0 ? "all answers are as due" : wrong + " answers are not as due");
        if (wrong != 0) {
            System.exit(1);
        }
    }
}
