// Every heap of three objects: each choice of roots and references, with each answer worked out from the terms.
// With an argument: every heap of that many objects, 1 to 4 (four are a million heaps, and take minutes).
public final class SmallHeapsTest {
    private static final int NONE = -1;
    private static final int DEAD = -2;

    // Not 0, 1, 2, 3, and not in order, so that gaps between numbers and both ends of them, 0 and 15, are met.
    private static final int[] NUMBERS = {15, 0, 9, 4};
    // Equal ones among them, and sums that are equal to a single one.
    private static final int[] SIZES = {1, 2, 1, 100};

    private static int wrong = 0;

    private final int count;
    private final int rootBits;
    private final long referenceBits;
    private final HeapView heap = new HeapView(16);
    // For each number: the objects on every path to it; 0 when there is no path.
    private final int[] dominators = new int[16];

    private SmallHeapsTest(int count, int rootBits, long referenceBits) {
        this.count = count;
        this.rootBits = rootBits;
        this.referenceBits = referenceBits;
    }

    private void due(String what, int got, int want) {
        if (got != want) {
            wrong++;
            if (wrong <= 20) {
                System.out.println(count + " objects, roots " + Integer.toBinaryString(rootBits) + ", references "
                    + Long.toBinaryString(referenceBits) + ": " + what + " answered " + got + ", due is " + want);
            }
        }
    }

    private boolean isRoot(int i) {
        return (rootBits >> i & 1) != 0;
    }

    private boolean refers(int i, int j) {
        return (referenceBits >> (i * count + j) & 1) != 0;
    }

    private int all() {
        int set = 0;
        for (int i = 0; i < count; i++) {
            set |= 1 << NUMBERS[i];
        }
        return set;
    }

    private void build() {
        for (int x = 0; x < 16; x++) {
            heap.make(sizeOf(x));
        }
        for (int x = 0; x < 16; x++) {
            if (!has(all(), x)) {
                heap.destroy(x);
            }
        }
        for (int i = 0; i < count; i++) {
            if (isRoot(i)) {
                heap.setRoot(NUMBERS[i], true);
            }
            for (int j = 0; j < count; j++) {
                if (refers(i, j)) {
                    heap.refer(NUMBERS[i], NUMBERS[j]);
                }
            }
        }
    }

    private static int sizeOf(int x) {
        for (int i = 0; i < NUMBERS.length; i++) {
            if (NUMBERS[i] == x) {
                return SIZES[i];
            }
        }
        return 50;
    }

    private static boolean has(int set, int x) {
        return x >= 0 && x < 16 && (set >> x & 1) != 0;
    }

    // A path that comes to an object twice has a shorter one among its objects: the others are enough.
    private void walk(int i, int on) {
        int x = NUMBERS[i];
        if (has(on, x)) {
            return;
        }
        int path = on | 1 << x;
        dominators[x] = dominators[x] == 0 ? path : dominators[x] & path;
        for (int j = 0; j < count; j++) {
            if (refers(i, j)) {
                walk(j, path);
            }
        }
    }

    private boolean isLive(int x) {
        return x >= 0 && x < 16 && dominators[x] != 0;
    }

    private int live() {
        int set = 0;
        for (int x = 0; x < 16; x++) {
            set |= isLive(x) ? 1 << x : 0;
        }
        return set;
    }

    // The one of the set that all others of it dominate.
    private int last(int set) {
        for (int x = 0; x < 16; x++) {
            int others = set & ~(1 << x);
            if (has(set, x) && (others & ~dominators[x]) == 0) {
                return x;
            }
        }
        return NONE;
    }

    private int kept(int x) {
        int set = 0;
        for (int y = 0; y < 16; y++) {
            set |= has(dominators[y], x) ? 1 << y : 0;
        }
        return set;
    }

    private int retained(int x) {
        int sum = 0;
        for (int y = 0; y < 16; y++) {
            sum += has(kept(x), y) ? sizeOf(y) : 0;
        }
        return sum;
    }

    // How many live objects stand before x.
    private int placeOf(int x) {
        int place = 0;
        for (int y = 0; y < 16; y++) {
            boolean before = retained(y) > retained(x) || retained(y) == retained(x) && y < x;
            place += isLive(y) && before ? 1 : 0;
        }
        return place;
    }

    private int suspect(int k) {
        for (int x = 0; x < 16; x++) {
            if (isLive(x) && placeOf(x) == k) {
                return x;
            }
        }
        return NONE;
    }

    private void lookAtOne(int x) {
        int others = isLive(x) ? dominators[x] & ~(1 << x) : 0;
        due("keeper(" + x + ")", heap.keeper(x), isLive(x) ? last(others) : DEAD);
        due("depth(" + x + ")", heap.depth(x), isLive(x) ? Integer.bitCount(others) : DEAD);
        due("kept(" + x + ")", heap.kept(x), kept(x));
        due("retained(" + x + ")", heap.retained(x), retained(x));
    }

    private void lookAtTwo(int x, int y) {
        boolean live = isLive(x) && isLive(y);
        int common = live ? last(dominators[x] & dominators[y]) : DEAD;
        due("common(" + x + ", " + y + ")", heap.common(x, y), common);
        boolean dominates = live && has(dominators[y], x);
        due("dominates(" + x + ", " + y + ")", heap.dominates(x, y) ? 1 : 0, dominates ? 1 : 0);
    }

    private void look() {
        due("objects()", heap.objects(), all());
        due("live()", heap.live(), live());
        for (int i = 0; i < count; i++) {
            lookAtOne(NUMBERS[i]);
            for (int j = 0; j < count; j++) {
                lookAtTwo(NUMBERS[i], NUMBERS[j]);
            }
        }
        for (int k = -1; k <= count; k++) {
            due("suspect(" + k + ")", heap.suspect(k), suspect(k));
        }
    }

    private void sweep() {
        due("sweep()", heap.sweep(), Integer.bitCount(all() & ~live()));
        due("objects() after sweep", heap.objects(), live());
        due("live() after sweep", heap.live(), live());
        for (int i = 0; i < count; i++) {
            for (int j = 0; j < count; j++) {
                int a = NUMBERS[i];
                int b = NUMBERS[j];
                boolean left = refers(i, j) && isLive(a) && isLive(b);
                due("forget(" + a + ", " + b + ") after sweep", heap.forget(a, b) ? 1 : 0, left ? 1 : 0);
            }
        }
    }

    private void run() {
        build();
        for (int i = 0; i < count; i++) {
            if (isRoot(i)) {
                walk(i, 0);
            }
        }
        look();
        sweep();
    }

    public static void main(String[] args) {
        int count = args.length > 0 ? Integer.parseInt(args[0]) : 3;
        for (int roots = 0; roots < 1 << count; roots++) {
            for (long references = 0; references < 1L << count * count; references++) {
                new SmallHeapsTest(count, roots, references).run();
            }
        }
        System.out.println(wrong == 0 ? "all answers are as due" : wrong + " answers are not as due");
        if (wrong != 0) {
            System.exit(1);
        }
    }
}
