/** Boundary cases of what two edges have in common: "Terms" and promises 8 and 9, a test for each sentence. */
public final class EdgeBoundaryTest extends OverlayTest {
    private static final int[] TRIANGLE = {0, 0, 4, 0, 0, 4};
    private static final int[] LINE = {0, 0, 4, 4};

    private static void dueCommon(String what, int want, int[] zero, int[] one) {
        // A polygon of two vertices has two edges, so polygon 1 begins with edge 2.
        PlaneOverlay x = laid(zero, one);
        due(what, want, () -> x.common(0, 2));
        due(what + ", the other way", want, () -> x.common(2, 0));
        due(what + ", the way back", want, () -> x.common(1, 3));
    }

    private static void dueShared(String what, PlaneOverlay x, int a, int b, int first, int last) {
        due(what + ", first", first, () -> x.shared(a, b, false));
        due(what + ", last", last, () -> x.shared(a, b, true));
        due(what + ", first, the other way", first, () -> x.shared(b, a, false));
        due(what + ", last, the other way", last, () -> x.shared(b, a, true));
    }

    private static void dueNotShared(String what, PlaneOverlay x, int a, int b) {
        thrown(what + ", first", ELEMENT, () -> x.shared(a, b, false));
        thrown(what + ", last", ELEMENT, () -> x.shared(a, b, true));
    }

    private static void nothingInCommon() {
        dueCommon("side by side", 0, LINE, new int[] {1, 0, 5, 4});
        dueCommon("on one line, apart", 0, LINE, new int[] {5, 5, 9, 9});
        dueCommon("on one upright line, apart", 0, new int[] {1, 0, 1, 4}, new int[] {1, 5, 1, 9});
        dueCommon("on one flat line, apart", 0, new int[] {0, 1, 4, 1}, new int[] {5, 1, 9, 1});
        dueCommon("would meet behind the end", 0, LINE, new int[] {5, 0, 5, 9});
        dueCommon("would meet before the beginning", 0, LINE, new int[] {-1, -9, -1, 9});
        dueCommon("would meet behind the other's end", 0, LINE, new int[] {2, 4, 2, 3});
        dueCommon("just short of it, far out", 0, new int[] {-30, -30, 30, 29}, new int[] {29, 28, 30, -30});
    }

    private static void theSameEdgeNamedTwice() {
        PlaneOverlay x = laid(TRIANGLE, LINE);
        for (int k = 0; k < 5; k++) {
            int edge = k;
            due("edge " + k, 0, () -> x.common(edge, edge));
        }
        due("another edge in the same place is not the same", 2, () -> x.common(3, 4));
        due("nor is one of the other polygon", 2, () -> laid(TRIANGLE, TRIANGLE).common(1, 4));
    }

    private static void onePointInCommon() {
        dueCommon("they cross", 1, LINE, new int[] {0, 4, 4, 0});
        dueCommon("they cross between whole points", 1, LINE, new int[] {0, 1, 1, 0});
        dueCommon("an end in the middle of the other", 1, LINE, new int[] {2, 2, 9, 0});
        dueCommon("an end on the first end", 1, LINE, new int[] {0, 0, -3, 1});
        dueCommon("an end on the last end", 1, LINE, new int[] {4, 4, 5, 0});
        dueCommon("the last end on the first end", 1, LINE, new int[] {-3, 1, 0, 0});
        dueCommon("on one line, end on end", 1, LINE, new int[] {4, 4, 5, 5});
        dueCommon("on one upright line, end on end", 1, new int[] {1, 0, 1, 4}, new int[] {1, 9, 1, 4});
        dueCommon("on one flat line, end on end", 1, new int[] {0, 1, 4, 1}, new int[] {4, 1, 9, 1});
        dueCommon("upright and flat", 1, new int[] {0, 1, 4, 1}, new int[] {4, 0, 4, 1});
    }

    private static void lineInCommon() {
        dueCommon("a part of both", 2, LINE, new int[] {3, 3, 9, 9});
        dueCommon("one in the other", 2, LINE, new int[] {1, 1, 2, 2});
        dueCommon("the other in the one", 2, LINE, new int[] {-1, -1, 9, 9});
        dueCommon("with the same beginning", 2, LINE, new int[] {0, 0, 1, 1});
        dueCommon("with the same end", 2, LINE, new int[] {3, 3, 4, 4});
        dueCommon("the very same", 2, LINE, LINE);
        dueCommon("the very same, the other way", 2, LINE, new int[] {4, 4, 0, 0});
        dueCommon("upright", 2, new int[] {1, 0, 1, 4}, new int[] {1, 3, 1, 9});
        dueCommon("flat", 2, new int[] {0, 1, 4, 1}, new int[] {9, 1, 3, 1});
    }

    private static void commonRefuses(int... wrong) {
        PlaneOverlay x = laid(TRIANGLE, LINE);
        for (int edge : wrong) {
            thrown("common(" + edge + ", 0)", INDEX, () -> x.common(edge, 0));
            thrown("common(0, " + edge + ")", INDEX, () -> x.common(0, edge));
            thrown("common(" + edge + ", twice)", INDEX, () -> x.common(edge, edge));
        }
    }

    private static void commonKnowsTheLastEdge() {
        PlaneOverlay x = laid(TRIANGLE, LINE);
        due("the last edge as a", 1, () -> x.common(4, 0));
        due("the last edge as b", 1, () -> x.common(0, 4));
        thrown("no edge behind it", INDEX, () -> x.common(0, 5));
        thrown("no edge at all", INDEX, () -> laid(NOTHING, new int[] {1, 1}).common(0, 0));
    }

    private static void edgesOfTheOverlayNotOfThePolygons() {
        PlaneOverlay x = laid(TRIANGLE, LINE);
        x.vertex(1, 9, 0);
        thrown("a new vertex gives no edge yet", INDEX, () -> x.common(0, 5));
        thrown("nor one to share", INDEX, () -> x.shared(0, 5, false));
        x.clear(0);
        x.clear(1);
        due("cleared polygons have their edges still", 1, () -> x.common(0, 4));
        due("and what they share", 0, () -> x.shared(0, 4, false));
    }

    private static void onePointIsFirstAndLast() {
        // Points: (0,0) (0,4) (2,2) (4,0) (4,4).
        PlaneOverlay x = laid(TRIANGLE, LINE);
        dueShared("they cross", x, 1, 3, 2, 2);
        dueShared("neighbours", x, 0, 1, 3, 3);
        dueShared("the last and the first", x, 2, 0, 0, 0);
        dueShared("end on end", x, 0, 3, 0, 0);
    }

    private static void lineHasAFirstAndALastPoint() {
        // Points: (0,0) (1,1) (4,4) (9,9).
        dueShared("a part", laid(LINE, new int[] {9, 9, 1, 1}), 0, 2, 1, 2);
        dueShared("one in the other", laid(new int[] {9, 9, 0, 0}, new int[] {4, 4, 1, 1}), 0, 3, 1, 2);
        dueShared("there and back", laid(new int[] {4, 4, 0, 0}, NOTHING), 0, 1, 0, 1);
        // Points: (0,0) (5,0) (5,5) (5,9) (9,9): one lies between the ends of what they have in common.
        dueShared("over a point", laid(new int[] {0, 0, 9, 9}, new int[] {0, 0, 9, 9, 5, 9, 5, 0}), 0, 2, 0, 4);
        // Points: (1,-9) (1,-3) (1,4) (1,9).
        dueShared("upright", laid(new int[] {1, 4, 1, -9}, new int[] {1, 9, 1, -3}), 0, 2, 1, 2);
    }

    private static void sharedRefusesNothingInCommon() {
        PlaneOverlay x = laid(SQUARE, MOVED_SQUARE);
        dueNotShared("side by side", x, 0, 2);
        dueNotShared("apart", x, 0, 4);
        dueNotShared("apart, the other way", x, 4, 0);
        dueNotShared("on one line, apart", laid(LINE, new int[] {5, 5, 9, 9}), 0, 2);
    }

    private static void sharedRefusesTheSameEdge() {
        PlaneOverlay x = laid(TRIANGLE, LINE);
        for (int edge = 0; edge < 5; edge++) {
            dueNotShared("edge " + edge, x, edge, edge);
        }
    }

    private static void sharedRefuses(int... wrong) {
        PlaneOverlay x = laid(TRIANGLE, LINE);
        for (int edge : wrong) {
            thrown("shared(" + edge + ", 0)", INDEX, () -> x.shared(edge, 0, false));
            thrown("shared(0, " + edge + ")", INDEX, () -> x.shared(0, edge, false));
            thrown("shared(" + edge + ", 0), last", INDEX, () -> x.shared(edge, 0, true));
            thrown("shared(0, " + edge + "), last", INDEX, () -> x.shared(0, edge, true));
        }
    }

    private static void sharedKnowsTheLastEdge() {
        PlaneOverlay x = laid(TRIANGLE, LINE);
        dueShared("the last edge", x, 4, 0, 0, 0);
        thrown("no edge behind it", INDEX, () -> x.shared(0, 5, false));
        thrown("no edge at all", INDEX, () -> laid(NOTHING, new int[] {1, 1}).shared(0, 0, true));
    }

    public static void main(String[] args) {
        test("8: 0 nothing.", EdgeBoundaryTest::nothingInCommon);
        test("8: 0, the same edge was named twice.", EdgeBoundaryTest::theSameEdgeNamedTwice);
        test("8: 1 one point; Terms: the line between its ends, with both.", EdgeBoundaryTest::onePointInCommon);
        test("8: 2 a line.", EdgeBoundaryTest::lineInCommon);
        test("8: There is no edge with one of the numbers: too small.", () -> commonRefuses(-1, -2, LEAST));
        test("8: There is no edge with one of the numbers: too large.", () -> commonRefuses(5, 6, 11, 12, 32, MOST));
        test("8: What two edges have in common: the last edge.", EdgeBoundaryTest::commonKnowsTheLastEdge);
        test("Terms: Made of the edges that there are then.", EdgeBoundaryTest::edgesOfTheOverlayNotOfThePolygons);
        test("9: The first or the last, of one point.", EdgeBoundaryTest::onePointIsFirstAndLast);
        test("9: The first or the last, of a line.", EdgeBoundaryTest::lineHasAFirstAndALastPoint);
        test("9: They have nothing in common.", EdgeBoundaryTest::sharedRefusesNothingInCommon);
        test("9: Or are the same edge.", EdgeBoundaryTest::sharedRefusesTheSameEdge);
        test("9: There is no edge with one of the numbers: too small.", () -> sharedRefuses(-1, -2, LEAST));
        test("9: There is no edge with one of the numbers: too large.", () -> sharedRefuses(5, 6, 11, 12, 32, MOST));
        test("9: What edges have in common: the last edge.", EdgeBoundaryTest::sharedKnowsTheLastEdge);
        end();
    }
}
