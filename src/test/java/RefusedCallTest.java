/** "What throws changes nothing. Of several reasons the exception named first is thrown.": for every refused call. */
public final class RefusedCallTest extends OverlayTest {
    // The overlay is made of these, and then the polygons become others: so it shows which of the two was touched.
    private static final int[] LAID_ZERO = {0, 0, 4, 0, 0, 4};
    private static final int[] LAID_ONE = {1, -1, 1, 5};
    private static final int[] LINE = {3, -2, 3, 7};
    private static final int EDGES = 5;
    private static final int POINTS = 7;
    private static final int PIECES = 8;

    private static PlaneOverlay withoutOverlay() {
        PlaneOverlay x = new PlaneOverlay();
        put(x, 0, HEXAGON);
        put(x, 1, LINE);
        return x;
    }

    private static PlaneOverlay withOverlay() {
        PlaneOverlay x = laid(LAID_ZERO, LAID_ONE);
        x.clear(0);
        x.clear(1);
        put(x, 0, HEXAGON);
        put(x, 1, LINE);
        return x;
    }

    private static PlaneOverlay laidAgain(PlaneOverlay x) {
        x.overlay();
        return x;
    }

    private static PlaneOverlay refused(PlaneOverlay x, String what, Class<?> want, Question question) {
        thrown(what, want, () -> question.of(x));
        return x;
    }

    /** The call is refused, and neither the overlay nor the polygons are other than they were. */
    private static void changesNothing(String what, Class<?> want, Question question) {
        PlaneOverlay x = refused(withOverlay(), what, want, question);
        dueSame("overlay after " + what, everyAnswer(withOverlay()), everyAnswer(x));
        PlaneOverlay y = laidAgain(refused(withOverlay(), what, want, question));
        dueSame("polygons after " + what, everyAnswer(laidAgain(withOverlay())), everyAnswer(y));
        PlaneOverlay z = refused(withOverlay(), what, want, question);
        due("vertices of 0 after " + what, 6, () -> z.clear(0));
        due("vertices of 1 after " + what, 2, () -> z.clear(1));
    }

    /** The call is refused, there is still no overlay, and the polygons are as they were. */
    private static void needsAnOverlay(String what, Question question) {
        PlaneOverlay x = refused(withoutOverlay(), what, STATE, question);
        thrown("no overlay after " + what, STATE, () -> x.size(0));
        due("vertices of 0 after " + what, 6, () -> x.clear(0));
        due("vertices of 1 after " + what, 2, () -> x.clear(1));
        PlaneOverlay y = laidAgain(refused(withoutOverlay(), what, STATE, question));
        dueSame("polygons after " + what, everyAnswer(laidAgain(withoutOverlay())), everyAnswer(y));
    }

    private static void theOverlayIsAsThought() {
        dueSizes("overlay", withOverlay(), EDGES, POINTS, PIECES, 3, 8);
    }

    private static void vertexChangesNothing() {
        changesNothing("vertex, polygon too small", ARGUMENT, x -> x.vertex(-1, 0, 0));
        changesNothing("vertex, polygon too large", ARGUMENT, x -> x.vertex(2, 0, 0));
        changesNothing("vertex, x too small", ARGUMENT, x -> x.vertex(1, -31, 0));
        changesNothing("vertex, x too large", ARGUMENT, x -> x.vertex(1, 31, 0));
        changesNothing("vertex, y too small", ARGUMENT, x -> x.vertex(1, 0, -31));
        changesNothing("vertex, y too large", ARGUMENT, x -> x.vertex(1, 0, 31));
        changesNothing("vertex, the polygon is full", STATE, x -> x.vertex(0, 0, 0));
    }

    private static void clearChangesNothing() {
        changesNothing("clear, too small", ARGUMENT, x -> x.clear(-1));
        changesNothing("clear, too large", ARGUMENT, x -> x.clear(2));
    }

    private static void sizeChangesNothing() {
        changesNothing("size, too small", ARGUMENT, x -> x.size(-1));
        changesNothing("size, too large", ARGUMENT, x -> x.size(5));
    }

    private static void pointChangesNothing() {
        changesNothing("point, k too small", INDEX, x -> x.point(-1, 0));
        changesNothing("point, k too large", INDEX, x -> x.point(POINTS, 0));
        changesNothing("point, what too small", ARGUMENT, x -> x.point(0, -1));
        changesNothing("point, what too large", ARGUMENT, x -> x.point(0, 3));
    }

    private static void pieceChangesNothing() {
        changesNothing("piece, k too small", INDEX, x -> x.piece(-1, 0));
        changesNothing("piece, k too large", INDEX, x -> x.piece(PIECES, 0));
        changesNothing("piece, what too small", ARGUMENT, x -> x.piece(0, -1));
        changesNothing("piece, what too large", ARGUMENT, x -> x.piece(0, 8));
    }

    private static void commonChangesNothing() {
        changesNothing("common, a too small", INDEX, x -> x.common(-1, 0));
        changesNothing("common, a too large", INDEX, x -> x.common(EDGES, 0));
        changesNothing("common, b too small", INDEX, x -> x.common(0, -1));
        changesNothing("common, b too large", INDEX, x -> x.common(0, EDGES));
    }

    private static void sharedChangesNothing() {
        changesNothing("shared, a too small", INDEX, x -> x.shared(-1, 0, false));
        changesNothing("shared, a too large", INDEX, x -> x.shared(EDGES, 0, false));
        changesNothing("shared, b too small", INDEX, x -> x.shared(0, -1, true));
        changesNothing("shared, b too large", INDEX, x -> x.shared(0, EDGES, true));
        changesNothing("shared, nothing in common", ELEMENT, x -> x.shared(2, 3, false));
        changesNothing("shared, the same edge", ELEMENT, x -> x.shared(1, 1, true));
    }

    private static void resultsChangeNothing() {
        changesNothing("bounds, too small", ARGUMENT, x -> x.bounds(-1));
        changesNothing("bounds, too large", ARGUMENT, x -> x.bounds(4));
        changesNothing("bound, result too small", ARGUMENT, x -> x.bound(-1, 0));
        changesNothing("bound, result too large", ARGUMENT, x -> x.bound(4, 0));
        changesNothing("bound, k too small", ELEMENT, x -> x.bound(0, -1));
        changesNothing("bound, k too large", ELEMENT, x -> x.bound(0, PIECES));
        changesNothing("area, too small", ARGUMENT, x -> x.area(-1));
        changesNothing("area, too large", ARGUMENT, x -> x.area(4));
    }

    private static void whereChangesNothing() {
        changesNothing("where, polygon too small", ARGUMENT, x -> x.where(-1, 0, 0, 1));
        changesNothing("where, polygon too large", ARGUMENT, x -> x.where(2, 0, 0, 1));
        changesNothing("where, x too small", ARGUMENT, x -> x.where(0, -100001, 0, 1));
        changesNothing("where, x too large", ARGUMENT, x -> x.where(0, 100001, 0, 1));
        changesNothing("where, y too small", ARGUMENT, x -> x.where(0, 0, -100001, 1));
        changesNothing("where, y too large", ARGUMENT, x -> x.where(0, 0, 100001, 1));
        changesNothing("where, d too small", ARGUMENT, x -> x.where(0, 0, 0, 0));
        changesNothing("where, d too large", ARGUMENT, x -> x.where(0, 0, 0, 1001));
    }

    private static void manyRefusedCallsChangeNothing() {
        PlaneOverlay x = withOverlay();
        for (int n = 0; n < 30; n++) {
            thrown("vertex", STATE, () -> x.vertex(0, 9, 9));
            thrown("vertex, range", ARGUMENT, () -> x.vertex(1, 31, 9));
            thrown("clear", ARGUMENT, () -> x.clear(2));
        }
        dueSame("overlay", everyAnswer(withOverlay()), everyAnswer(x));
        due("vertices of 0", 6, () -> x.clear(0));
        due("vertices of 1", 2, () -> x.clear(1));
    }

    private static void callsBeforeTheFirstOverlay() {
        needsAnOverlay("size", x -> x.size(0));
        needsAnOverlay("point", x -> x.point(0, 0));
        needsAnOverlay("piece", x -> x.piece(0, 0));
        needsAnOverlay("common", x -> x.common(0, 1));
        needsAnOverlay("shared", x -> x.shared(0, 1, false));
        needsAnOverlay("bounds", x -> x.bounds(0));
        needsAnOverlay("bound", x -> x.bound(0, 0));
        needsAnOverlay("where", x -> x.where(0, 3, 2, 1));
        needsAnOverlay("area", x -> x.area(0));
    }

    private static void verticesMakeNoOverlay() {
        PlaneOverlay x = withoutOverlay();
        x.clear(0);
        thrown("after vertex and clear", STATE, () -> x.size(0));
        thrown("after a refused vertex", STATE, () -> refused(x, "vertex", ARGUMENT, y -> y.vertex(2, 0, 0)).area(0));
        x.overlay();
        due("after overlay", 2, () -> x.size(0));
        x.clear(1);
        due("clear takes no overlay away", 2, () -> x.size(0));
    }

    private static void vertexNamesTheArgumentFirst() {
        PlaneOverlay x = withoutOverlay();
        put(x, 1, new int[] {1, 1, 2, 2, 3, 3, 4, 4});
        for (int polygon = 0; polygon < 2; polygon++) {
            int asks = polygon;
            thrown("full, no room", STATE, () -> x.vertex(asks, 30, -30));
            thrown("full, x too small", ARGUMENT, () -> x.vertex(asks, -31, 0));
            thrown("full, x too large", ARGUMENT, () -> x.vertex(asks, 31, 0));
            thrown("full, y too small", ARGUMENT, () -> x.vertex(asks, 0, -31));
            thrown("full, y too large", ARGUMENT, () -> x.vertex(asks, 0, 31));
            thrown("full, both wrong", ARGUMENT, () -> x.vertex(asks, MOST, LEAST));
        }
        thrown("no such polygon, both are full", ARGUMENT, () -> x.vertex(2, 0, 0));
        thrown("all wrong", ARGUMENT, () -> x.vertex(-1, 31, 31));
    }

    private static void sizeNamesTheStateFirst() {
        needsAnOverlay("size, what too small", x -> x.size(-1));
        needsAnOverlay("size, what too large", x -> x.size(5));
    }

    private static void pointNamesTheStateThenTheIndex() {
        needsAnOverlay("point, k too small", x -> x.point(-1, 0));
        needsAnOverlay("point, k too large", x -> x.point(MOST, 0));
        needsAnOverlay("point, what wrong", x -> x.point(0, 3));
        needsAnOverlay("point, both wrong", x -> x.point(-1, -1));
        changesNothing("point, k too small, what wrong", INDEX, x -> x.point(-1, 3));
        changesNothing("point, k too large, what wrong", INDEX, x -> x.point(POINTS, -1));
        thrown("point, no edge, what wrong", INDEX, () -> laid(NOTHING, NOTHING).point(0, 3));
    }

    private static void pieceNamesTheStateThenTheIndex() {
        needsAnOverlay("piece, k too small", x -> x.piece(-1, 0));
        needsAnOverlay("piece, k too large", x -> x.piece(MOST, 0));
        needsAnOverlay("piece, what wrong", x -> x.piece(0, 8));
        needsAnOverlay("piece, both wrong", x -> x.piece(-1, -1));
        changesNothing("piece, k too small, what wrong", INDEX, x -> x.piece(-1, 8));
        changesNothing("piece, k too large, what wrong", INDEX, x -> x.piece(PIECES, -1));
        thrown("piece, no edge, what wrong", INDEX, () -> laid(NOTHING, NOTHING).piece(0, 8));
    }

    private static void commonNamesTheStateFirst() {
        needsAnOverlay("common, a wrong", x -> x.common(-1, 0));
        needsAnOverlay("common, b wrong", x -> x.common(0, 12));
        needsAnOverlay("common, both wrong", x -> x.common(12, -1));
        needsAnOverlay("common, the same edge", x -> x.common(0, 0));
    }

    private static void sharedNamesTheStateThenTheIndex() {
        needsAnOverlay("shared, a wrong", x -> x.shared(-1, 0, false));
        needsAnOverlay("shared, b wrong", x -> x.shared(0, 12, false));
        needsAnOverlay("shared, the same edge", x -> x.shared(0, 0, true));
        needsAnOverlay("shared, the same edge, wrong", x -> x.shared(-1, -1, true));
        changesNothing("shared, the same edge, too small", INDEX, x -> x.shared(-1, -1, false));
        changesNothing("shared, the same edge, too large", INDEX, x -> x.shared(EDGES, EDGES, true));
        changesNothing("shared, both wrong", INDEX, x -> x.shared(EDGES, -1, true));
    }

    private static void boundsNamesTheStateFirst() {
        needsAnOverlay("bounds, too small", x -> x.bounds(-1));
        needsAnOverlay("bounds, too large", x -> x.bounds(4));
    }

    private static void boundNamesTheStateThenTheArgument() {
        needsAnOverlay("bound, result wrong", x -> x.bound(4, 0));
        needsAnOverlay("bound, k wrong", x -> x.bound(0, -1));
        needsAnOverlay("bound, both wrong", x -> x.bound(-1, MOST));
        changesNothing("bound, result too large, k too small", ARGUMENT, x -> x.bound(4, -1));
        changesNothing("bound, result too small, k too large", ARGUMENT, x -> x.bound(-1, PIECES));
    }

    private static void whereNamesTheStateFirst() {
        needsAnOverlay("where, polygon wrong", x -> x.where(2, 0, 0, 1));
        needsAnOverlay("where, x wrong", x -> x.where(0, 100001, 0, 1));
        needsAnOverlay("where, y wrong", x -> x.where(0, 0, -100001, 1));
        needsAnOverlay("where, d wrong", x -> x.where(0, 0, 0, 0));
        needsAnOverlay("where, all wrong", x -> x.where(-1, LEAST, MOST, 1001));
    }

    private static void areaNamesTheStateFirst() {
        needsAnOverlay("area, too small", x -> x.area(-1));
        needsAnOverlay("area, too large", x -> x.area(4));
    }

    private static void testWhatThrowsChangesNothing() {
        test("(The overlay that these tests use.)", RefusedCallTest::theOverlayIsAsThought);
        test("What throws changes nothing: vertex.", RefusedCallTest::vertexChangesNothing);
        test("What throws changes nothing: clear.", RefusedCallTest::clearChangesNothing);
        test("What throws changes nothing: size.", RefusedCallTest::sizeChangesNothing);
        test("What throws changes nothing: point.", RefusedCallTest::pointChangesNothing);
        test("What throws changes nothing: piece.", RefusedCallTest::pieceChangesNothing);
        test("What throws changes nothing: common.", RefusedCallTest::commonChangesNothing);
        test("What throws changes nothing: shared.", RefusedCallTest::sharedChangesNothing);
        test("What throws changes nothing: bounds, bound, area.", RefusedCallTest::resultsChangeNothing);
        test("What throws changes nothing: where.", RefusedCallTest::whereChangesNothing);
        test("What throws changes nothing: many calls.", RefusedCallTest::manyRefusedCallsChangeNothing);
        test("5 to 13: Illegal state: there is no overlay.", RefusedCallTest::callsBeforeTheFirstOverlay);
        test("4: Only overlay makes one.", RefusedCallTest::verticesMakeNoOverlay);
    }

    private static void testSeveralReasons() {
        test("2: The exception named first.", RefusedCallTest::vertexNamesTheArgumentFirst);
        test("5: The exception named first.", RefusedCallTest::sizeNamesTheStateFirst);
        test("6: The exception named first.", RefusedCallTest::pointNamesTheStateThenTheIndex);
        test("7: The exception named first.", RefusedCallTest::pieceNamesTheStateThenTheIndex);
        test("8: The exception named first.", RefusedCallTest::commonNamesTheStateFirst);
        test("9: The exception named first.", RefusedCallTest::sharedNamesTheStateThenTheIndex);
        test("10: The exception named first.", RefusedCallTest::boundsNamesTheStateFirst);
        test("11: The exception named first.", RefusedCallTest::boundNamesTheStateThenTheArgument);
        test("12: The exception named first.", RefusedCallTest::whereNamesTheStateFirst);
        test("13: The exception named first.", RefusedCallTest::areaNamesTheStateFirst);
    }

    public static void main(String[] args) {
        testWhatThrowsChangesNothing();
        testSeveralReasons();
        end();
    }
}
