// The example of README.md, call by call: what its comments tell is what the class answers.
public final class ReadmeTest {
    private static int wrong = 0;

    private static void due(String what, int got, int want) {
        if (got != want) {
            wrong++;
            System.out.println(what + " answered " + got + ", due is " + want);
        }
    }

    private static void due(String what, boolean got) {
        due(what, got ? 1 : 0, 1);
    }

    private static boolean isIn(HeapView heap, int x) {
        return ((heap.live() >> x) & 1) != 0;
    }

    public static void main(String[] args) {
        HeapView heap = new HeapView(16);
        int a = heap.make(10);
        int b = heap.make(5);
        int c = heap.make(2);
        int d = heap.make(7);
        due("make(10)", a, 0);
        due("make(5)", b, 1);
        due("make(2)", c, 2);
        due("make(7)", d, 3);
        due("setRoot(a, true)", heap.setRoot(a, true));
        due("refer(a, b)", heap.refer(a, b));
        due("refer(b, c)", heap.refer(b, c));
        due("refer(d, c)", heap.refer(d, c));
        due("objects()", heap.objects(), 15);
        due("live()", heap.live(), 7);
        due("keeper(c)", heap.keeper(c), 1);
        due("keeper(a)", heap.keeper(a), HeapView.NONE);
        due("keeper(d)", heap.keeper(d), HeapView.DEAD);
        due("kept(b)", heap.kept(b), 6);
        due("retained(b)", heap.retained(b), 7);
        due("suspect(0)", heap.suspect(0), 0);
        due("c is in live()", isIn(heap, c));
        due("d is not in live()", !isIn(heap, d));
        due("sweep()", heap.sweep(), 1);
        due("objects() after sweep", heap.objects(), 7);
        System.out.println(wrong == 0 ? "all answers are as due" : wrong + " answers are not as due");
        if (wrong != 0) {
            System.exit(1);
        }
    }
}
