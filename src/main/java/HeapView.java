/** Looks into a heap of objects: what is reachable, and which object keeps which others alive. */
public final class HeapView {
    public static final int NONE = -1;
    public static final int DEAD = -2;

    private static final int MOST_OBJECTS = 16;
    private static final int GREATEST_SIZE = 100;

    // Every set of objects is an int in which bit x stands for object x.
    // Roots and references name existing objects only: whatever is reached from the roots exists.
    private final int capacity;
    private int existing = 0;
    private int roots = 0;
    private final int[] sizes = new int[MOST_OBJECTS];
    private final int[] referred = new int[MOST_OBJECTS];

    public HeapView(int capacity) {
        if (capacity < 1) {
            this.capacity = 1;
        } else if (capacity > MOST_OBJECTS) {
            this.capacity = MOST_OBJECTS;
        } else {
            this.capacity = capacity;
        }
    }

    public int make(int size) {
        if (size < 1 || size > GREATEST_SIZE) {
            return NONE;
        }
        for (int x = 0; x < capacity; x++) {
            if (!has(existing, x)) {
                existing |= 1 << x;
                sizes[x] = size;
                return x;
            }
        }
        return NONE;
    }

    public boolean destroy(int x) {
        if (!exists(x)) {
            return false;
        }
        removeAll(1 << x);
        return true;
    }

    public boolean setRoot(int x, boolean on) {
        if (!exists(x)) {
            return false;
        }
        if (on) {
            roots |= 1 << x;
        } else {
            roots &= ~(1 << x);
        }
        return true;
    }

    public boolean refer(int a, int b) {
        if (!exists(a) || !exists(b)) {
            return false;
        }
        referred[a] |= 1 << b;
        return true;
    }

    public boolean forget(int a, int b) {
        if (!exists(a) || !exists(b) || !has(referred[a], b)) {
            return false;
        }
        referred[a] &= ~(1 << b);
        return true;
    }

    public int objects() {
        return existing;
    }

    public int live() {
        return reachedWithout(0);
    }

    public int keeper(int x) {
        if (!isLive(x)) {
            return DEAD;
        }
        int others = dominatorsOf(x) & ~(1 << x);
        return dominatedByAll(others);
    }

    public boolean dominates(int a, int x) {
        if (!isLive(a) || !isLive(x)) {
            return false;
        }
        int dominated = keptBy(a);
        return has(dominated, x);
    }

    public int kept(int x) {
        return isLive(x) ? keptBy(x) : 0;
    }

    public int retained(int x) {
        return isLive(x) ? sizeKeptBy(x) : 0;
    }

    public int depth(int x) {
        if (!isLive(x)) {
            return DEAD;
        }
        int others = dominatorsOf(x) & ~(1 << x);
        return countOf(others);
    }

    public int common(int x, int y) {
        if (!isLive(x) || !isLive(y)) {
            return DEAD;
        }
        int both = dominatorsOf(x) & dominatorsOf(y);
        return dominatedByAll(both);
    }

    public int suspect(int k) {
        int left = reachedWithout(0);
        int count = countOf(left);
        if (k < 0 || k >= count) {
            return NONE;
        }
        for (int place = 0; place < k; place++) {
            int taken = heaviestOf(left);
            left &= ~(1 << taken);
        }
        return heaviestOf(left);
    }

    public int sweep() {
        int dead = existing & ~reachedWithout(0);
        removeAll(dead);
        return countOf(dead);
    }

    private static boolean has(int set, int x) {
        return ((set >> x) & 1) != 0;
    }

    private static int countOf(int set) {
        int count = 0;
        for (int x = 0; x < MOST_OBJECTS; x++) {
            if (has(set, x)) {
                count++;
            }
        }
        return count;
    }

    // A shift takes its distance modulo 32, so the range is looked at before the bit.
    private boolean exists(int x) {
        return x >= 0 && x < MOST_OBJECTS && has(existing, x);
    }

    private boolean isLive(int x) {
        if (!exists(x)) {
            return false;
        }
        int reached = reachedWithout(0);
        return has(reached, x);
    }

    // A number may be given again: its new object must find no root mark and no reference of the old one.
    private void removeAll(int gone) {
        existing &= ~gone;
        roots &= ~gone;
        for (int a = 0; a < MOST_OBJECTS; a++) {
            if (has(gone, a)) {
                referred[a] = 0;
            } else {
                referred[a] &= ~gone;
            }
        }
    }

    // A shortest path has at most MOST_OBJECTS objects, so that many rounds reach everything.
    private int reachedWithout(int gone) {
        int reached = roots & ~gone;
        for (int round = 0; round < MOST_OBJECTS; round++) {
            for (int a = 0; a < MOST_OBJECTS; a++) {
                if (has(reached, a)) {
                    reached |= referred[a] & ~gone;
                }
            }
        }
        return reached;
    }

    // An object is on every path to y just when y can't be reached without it:
    // what x keeps is what x dominates.
    private int keptBy(int x) {
        return reachedWithout(0) & ~reachedWithout(1 << x);
    }

    private int sizeKeptBy(int x) {
        int set = keptBy(x);
        int sum = 0;
        for (int y = 0; y < MOST_OBJECTS; y++) {
            if (has(set, y)) {
                sum += sizes[y];
            }
        }
        return sum;
    }

    private int dominatorsOf(int x) {
        int set = 0;
        for (int a = 0; a < MOST_OBJECTS; a++) {
            int dominated = keptBy(a);
            if (has(dominated, x)) {
                set |= 1 << a;
            }
        }
        return set;
    }

    // The object of the set that every object of the set dominates.
    private int dominatedByAll(int set) {
        for (int x = 0; x < MOST_OBJECTS; x++) {
            if (has(set, x) && (set & ~dominatorsOf(x)) == 0) {
                return x;
            }
        }
        return NONE;
    }

    // Only a greater size takes the place of an earlier one, so the least number wins among equals.
    private int heaviestOf(int set) {
        int heaviest = NONE;
        int greatest = 0;
        for (int x = 0; x < MOST_OBJECTS; x++) {
            if (has(set, x)) {
                int size = sizeKeptBy(x);
                if (size > greatest) {
                    heaviest = x;
                    greatest = size;
                }
            }
        }
        return heaviest;
    }
}
