import java.util.NoSuchElementException;

/** What the tests have in common: they ask for answers and exceptions, and count those that are not as due. */
abstract class OverlayTest {
    static final int LEAST = Integer.MIN_VALUE;
    static final int MOST = Integer.MAX_VALUE;
    static final Class<?> STATE = IllegalStateException.class;
    static final Class<?> ARGUMENT = IllegalArgumentException.class;
    static final Class<?> INDEX = IndexOutOfBoundsException.class;
    static final Class<?> ELEMENT = NoSuchElementException.class;

    static final int[] SQUARE = {0, 0, 4, 0, 4, 4, 0, 4};
    static final int[] MOVED_SQUARE = {2, 2, 6, 2, 6, 6, 2, 6};
    static final int[] HEXAGON = {2, 0, 4, 0, 6, 2, 4, 4, 2, 4, 0, 2};
    static final int[] NOTHING = {};

    private static int wrong = 0;
    private static int asked = 0;
    private static int tests = 0;

    interface Call {
        double answer();
    }

    interface Question {
        double of(PlaneOverlay x);
    }

    interface Test {
        void ask();
    }

    static void due(String what, double want, Call call) {
        asked++;
        try {
            double got = call.answer();
            if (Double.compare(got, want) != 0) {
                wrong++;
                System.out.println(what + " answered " + got + ", due is " + want);
            }
        } catch (RuntimeException e) {
            wrong++;
            System.out.println(what + " threw " + e + ", due is " + want);
        }
    }

    static void thrown(String what, Class<?> want, Call call) {
        asked++;
        try {
            double got = call.answer();
            wrong++;
            System.out.println(what + " answered " + got + ", due is " + want);
        } catch (RuntimeException e) {
            if (e.getClass() != want) {
                wrong++;
                System.out.println(what + " threw " + e + ", due is " + want);
            }
        }
    }

    static void put(PlaneOverlay x, int polygon, int[] at) {
        for (int k = 0; k < at.length; k += 2) {
            x.vertex(polygon, at[k], at[k + 1]);
        }
    }

    static PlaneOverlay laid(int[] zero, int[] one) {
        PlaneOverlay x = new PlaneOverlay();
        put(x, 0, zero);
        put(x, 1, one);
        x.overlay();
        return x;
    }

    static void dueSizes(String what, PlaneOverlay x, int... want) {
        for (int k = 0; k < want.length; k++) {
            int size = k;
            due(what + " size(" + size + ")", want[k], () -> x.size(size));
        }
    }

    static void duePoint(String what, PlaneOverlay x, int k, int... want) {
        for (int n = 0; n < 3; n++) {
            int asks = n;
            due(what + " point(" + k + ", " + n + ")", want[n], () -> x.point(k, asks));
        }
    }

    static void duePiece(String what, PlaneOverlay x, int k, int... want) {
        for (int n = 0; n < 8; n++) {
            int asks = n;
            due(what + " piece(" + k + ", " + n + ")", want[n], () -> x.piece(k, asks));
        }
    }

    static void dueBounds(String what, PlaneOverlay x, int result, int... want) {
        due(what + " bounds(" + result + ")", want.length, () -> x.bounds(result));
        for (int n = 0; n < want.length; n++) {
            int k = n;
            due(what + " bound(" + result + ", " + k + ")", want[k], () -> x.bound(result, k));
        }
        thrown(what + " bound behind the last", ELEMENT, () -> x.bound(result, want.length));
        thrown(what + " bound -1", ELEMENT, () -> x.bound(result, -1));
        thrown(what + " bound least", ELEMENT, () -> x.bound(result, LEAST));
        thrown(what + " bound most", ELEMENT, () -> x.bound(result, MOST));
    }

    static void dueAreas(String what, PlaneOverlay x, double... want) {
        for (int k = 0; k < want.length; k++) {
            int result = k;
            due(what + " area(" + result + ")", want[k], () -> x.area(result));
        }
    }

    static void dueSame(String what, String want, String got) {
        due(what + ", which is now\n" + got + ", due is\n" + want, 1, () -> got.equals(want) ? 1 : 0);
    }

    /** All that an object tells of its overlay, as a text: for overlays of few edges, as calls of an object are few. */
    static String everyAnswer(PlaneOverlay x) {
        StringBuilder told = new StringBuilder();
        for (int what = 0; what < 5; what++) {
            tell(told, "size", x.size(what));
        }
        for (int k = 0; k < x.size(1); k++) {
            tell(told, "point", x.point(k, 0), x.point(k, 1), x.point(k, 2));
        }
        for (int k = 0; k < x.size(2); k++) {
            tell(told, "piece", x.piece(k, 0), x.piece(k, 1), x.piece(k, 2), x.piece(k, 3), x.piece(k, 4),
                    x.piece(k, 5), x.piece(k, 6), x.piece(k, 7));
        }
        tellOfEdges(told, x);
        for (int result = 0; result < 4; result++) {
            tell(told, "result", x.bounds(result), x.area(result));
            tellOfBounds(told, x, result);
        }
        for (int polygon = 0; polygon < 2; polygon++) {
            tell(told, "where", x.where(polygon, 0, 0, 1), x.where(polygon, 2, 2, 1), x.where(polygon, 9, 9, 2));
        }
        return told.toString();
    }

    private static void tellOfEdges(StringBuilder told, PlaneOverlay x) {
        int edges = x.size(0);
        for (int a = 0; a < edges; a++) {
            for (int b = 0; b < a; b++) {
                tell(told, "common", x.common(a, b));
                tellOfShared(told, x, a, b, false);
                tellOfShared(told, x, a, b, true);
            }
        }
    }

    private static void tellOfShared(StringBuilder told, PlaneOverlay x, int a, int b, boolean last) {
        try {
            tell(told, "shared", x.shared(a, b, last));
        } catch (NoSuchElementException e) {
            tell(told, "nothing shared");
        }
    }

    private static void tellOfBounds(StringBuilder told, PlaneOverlay x, int result) {
        int bounds = x.bounds(result);
        for (int k = 0; k <= bounds; k++) {
            try {
                tell(told, "bound", x.bound(result, k));
            } catch (NoSuchElementException e) {
                tell(told, "no bound", k);
            }
        }
    }

    private static void tell(StringBuilder told, String call, double... answers) {
        told.append(call);
        for (double answer : answers) {
            told.append(' ').append(answer);
        }
        told.append('\n');
    }

    /** Runs the test of one sentence of the document; the sentence is told if it does not hold. */
    static void test(String sentence, Test test) {
        int before = wrong;
        tests++;
        try {
            test.ask();
        } catch (RuntimeException e) {
            wrong++;
            System.out.println("a call threw " + e);
        }
        if (wrong != before) {
            System.out.println("does not hold: " + sentence);
        }
    }

    /** Tells how it went, and ends the program with exit code 1 if an answer was not as due. */
    static void end() {
        System.out.println(tests + " tests, " + asked + " answers asked for, " + wrong + " not as due");
        if (wrong != 0) {
            System.exit(1);
        }
    }
}
