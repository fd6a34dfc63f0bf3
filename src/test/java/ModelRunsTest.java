import java.util.Arrays;

// Long mixed runs against a model that follows the document's terms word by word: it walks the paths themselves.
public final class ModelRunsTest {
    private static final int CALLS = 512;

    private static int wrong = 0;
    private static long seed = 1;

    // An own sequence of numbers, so that every run of the test is the same.
    private static int next(int bound) {
        seed = seed * 6364136223846793005L + 1442695040888963407L;
        return (int) ((seed >>> 33) % bound);
    }

    private static final class Model {
        final int capacity;
        final boolean[] there = new boolean[16];
        final boolean[] root = new boolean[16];
        final int[] size = new int[16];
        final boolean[][] reference = new boolean[16][16];
        // onAll[x]: the objects on every path to x; 0 when there is no path.
        final int[] onAll = new int[16];

        Model(int capacity) {
            this.capacity = capacity < 1 ? 1 : capacity > 16 ? 16 : capacity;
        }

        boolean there(int x) {
            return x >= 0 && x < 16 && there[x];
        }

        int make(int newSize) {
            if (newSize < 1 || newSize > 100) {
                return -1;
            }
            for (int x = 0; x < capacity; x++) {
                if (!there[x]) {
                    there[x] = true;
                    size[x] = newSize;
                    return x;
                }
            }
            return -1;
        }

        int destroy(int x) {
            if (!there(x)) {
                return 0;
            }
            there[x] = false;
            root[x] = false;
            for (int y = 0; y < 16; y++) {
                reference[x][y] = false;
                reference[y][x] = false;
            }
            return 1;
        }

        int setRoot(int x, boolean on) {
            if (!there(x)) {
                return 0;
            }
            root[x] = on;
            return 1;
        }

        int refer(int a, int b) {
            if (!there(a) || !there(b)) {
                return 0;
            }
            reference[a][b] = true;
            return 1;
        }

        int forget(int a, int b) {
            if (!there(a) || !there(b) || !reference[a][b]) {
                return 0;
            }
            reference[a][b] = false;
            return 1;
        }

        int objects() {
            int set = 0;
            for (int x = 0; x < 16; x++) {
                set |= there[x] ? 1 << x : 0;
            }
            return set;
        }

        // Two paths with the same end and the same objects on them say the same: each such pair is walked once.
        void walkPaths() {
            boolean[][] walked = new boolean[16][];
            for (int x = 0; x < 16; x++) {
                walked[x] = new boolean[1 << 16];
            }
            Arrays.fill(onAll, 0);
            for (int x = 0; x < 16; x++) {
                if (root[x]) {
                    walk(x, 1 << x, walked);
                }
            }
        }

        void walk(int end, int on, boolean[][] walked) {
            if (walked[end][on]) {
                return;
            }
            walked[end][on] = true;
            onAll[end] = onAll[end] == 0 ? on : onAll[end] & on;
            for (int y = 0; y < 16; y++) {
                if (reference[end][y]) {
                    walk(y, on | 1 << y, walked);
                }
            }
        }

        boolean isLive(int x) {
            return x >= 0 && x < 16 && onAll[x] != 0;
        }

        int live() {
            int set = 0;
            for (int x = 0; x < 16; x++) {
                set |= isLive(x) ? 1 << x : 0;
            }
            return set;
        }

        int dominates(int a, int x) {
            return isLive(a) && isLive(x) && (onAll[x] & 1 << a) != 0 ? 1 : 0;
        }

        // The one of the set that all others of it dominate.
        int last(int set) {
            for (int k = 0; k < 16; k++) {
                if ((set & 1 << k) != 0 && (set & ~onAll[k]) == 0) {
                    return k;
                }
            }
            return -1;
        }

        int keeper(int x) {
            return isLive(x) ? last(onAll[x] & ~(1 << x)) : -2;
        }

        int common(int x, int y) {
            return isLive(x) && isLive(y) ? last(onAll[x] & onAll[y]) : -2;
        }

        int depth(int x) {
            return isLive(x) ? Integer.bitCount(onAll[x]) - 1 : -2;
        }

        // As the document says it: what is live, and is not once x is destroyed.
        int kept(int x) {
            if (!isLive(x)) {
                return 0;
            }
            Model without = new Model(capacity);
            for (int y = 0; y < 16; y++) {
                without.there[y] = there[y];
                without.root[y] = root[y];
                System.arraycopy(reference[y], 0, without.reference[y], 0, 16);
            }
            without.destroy(x);
            return live() & ~without.spread();
        }

        int spread() {
            int set = 0;
            for (int x = 0; x < 16; x++) {
                set |= root[x] ? 1 << x : 0;
            }
            int before;
            do {
                before = set;
                for (int x = 0; x < 16; x++) {
                    for (int y = 0; y < 16; y++) {
                        set |= (before & 1 << x) != 0 && reference[x][y] ? 1 << y : 0;
                    }
                }
            } while (set != before);
            return set;
        }

        int retained(int x) {
            int set = kept(x);
            int sum = 0;
            for (int y = 0; y < 16; y++) {
                sum += (set & 1 << y) != 0 ? size[y] : 0;
            }
            return sum;
        }

        int suspect(int k) {
            Integer[] order = new Integer[Integer.bitCount(live())];
            if (k < 0 || k >= order.length) {
                return -1;
            }
            int[] weight = new int[16];
            int count = 0;
            for (int x = 0; x < 16; x++) {
                weight[x] = retained(x);
                if (isLive(x)) {
                    order[count++] = x;
                }
            }
            Arrays.sort(order, (x, y) -> weight[x] != weight[y] ? weight[y] - weight[x] : x - y);
            return order[k];
        }

        int sweep() {
            int count = 0;
            for (int x = 0; x < 16; x++) {
                if (there[x] && !isLive(x)) {
                    destroy(x);
                    count++;
                }
            }
            return count;
        }
    }

    private static void due(int run, int call, String what, int got, int want) {
        if (got != want) {
            wrong++;
            if (wrong <= 20) {
                System.out.println("run " + run + ", call " + call + ": " + what + " answered " + got + ", due is " + want);
            }
        }
    }

    private static int number(int capacity) {
        int[] odd = {-1, 16, capacity, 32, 35, -29, Integer.MIN_VALUE, Integer.MAX_VALUE};
        return next(24) == 0 ? odd[next(odd.length)] : next(capacity);
    }

    private static int change(int run, int call, HeapView h, Model m, int references) {
        int x = number(m.capacity);
        int y = number(m.capacity);
        int pick = next(40);
        if (pick < 10) {
            int size = next(8) == 0 ? next(120) - 10 : 1 + next(4);
            due(run, call, "make(" + size + ")", h.make(size), m.make(size));
        } else if (pick < 12) {
            due(run, call, "destroy(" + x + ")", h.destroy(x) ? 1 : 0, m.destroy(x));
        } else if (pick < 15) {
            boolean on = next(2) == 0;
            due(run, call, "setRoot(" + x + ", " + on + ")", h.setRoot(x, on) ? 1 : 0, m.setRoot(x, on));
        } else if (pick < 15 + references) {
            due(run, call, "refer(" + x + ", " + y + ")", h.refer(x, y) ? 1 : 0, m.refer(x, y));
        } else if (pick < 39) {
            due(run, call, "forget(" + x + ", " + y + ")", h.forget(x, y) ? 1 : 0, m.forget(x, y));
        } else if (next(3) == 0) {
            m.walkPaths();
            due(run, call, "sweep()", h.sweep(), m.sweep());
        } else {
            return call;
        }
        return call + 1;
    }

    private static int look(int run, int call, HeapView h, Model m) {
        int x = number(m.capacity);
        int y = number(m.capacity);
        int k = next(m.capacity + 2) - 1;
        due(run, call, "objects()", h.objects(), m.objects());
        due(run, call, "live()", h.live(), m.live());
        due(run, call, "keeper(" + x + ")", h.keeper(x), m.keeper(x));
        due(run, call, "dominates(" + x + ", " + y + ")", h.dominates(x, y) ? 1 : 0, m.dominates(x, y));
        due(run, call, "kept(" + x + ")", h.kept(x), m.kept(x));
        due(run, call, "retained(" + x + ")", h.retained(x), m.retained(x));
        due(run, call, "depth(" + x + ")", h.depth(x), m.depth(x));
        due(run, call, "common(" + x + ", " + y + ")", h.common(x, y), m.common(x, y));
        due(run, call, "suspect(" + k + ")", h.suspect(k), m.suspect(k));
        return call + 9;
    }

    private static void run(int run, int capacity, int references) {
        HeapView h = new HeapView(capacity);
        Model m = new Model(capacity);
        int call = 0;
        while (call < CALLS - 20) {
            for (int i = 0; i < 6; i++) {
                call = change(run, call, h, m, references);
            }
            m.walkPaths();
            call = look(run, call, h, m);
        }
    }

    public static void main(String[] args) {
        int[] capacities = {16, 16, 8, 5, 3, 1, 12, 0, 20, 16};
        int[] references = {12, 16, 20, 16, 14, 12, 13, 12, 14, 19};
        for (int run = 0; run < 100; run++) {
            run(run, capacities[run % 10], references[run % 10]);
        }
        System.out.println(wrong == 0 ? "all answers are as due" : wrong + " answers are not as due");
        if (wrong != 0) {
            System.exit(1);
        }
    }
}
