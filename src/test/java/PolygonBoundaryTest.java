/** Boundary cases of polygons, vertices and edges: "Terms" and promises 1 to 3, a test for each sentence. */
public final class PolygonBoundaryTest extends OverlayTest {
    private static final int[] TOO_SMALL_POLYGONS = {-1, -2, LEAST, LEAST + 1};
    private static final int[] TOO_LARGE_POLYGONS = {2, 3, 6, MOST - 1, MOST};
    private static final int[] TOO_SMALL_COORDINATES = {-31, -32, -100, LEAST, LEAST + 30, LEAST + 31};
    private static final int[] TOO_LARGE_COORDINATES = {31, 32, 100, MOST - 30, MOST};
    private static final int[] TRIANGLE = {0, 0, 4, 0, 0, 4};
    private static final int CALLS_OF_AN_OBJECT = 512;

    private static void newObjectHasNoVertices() {
        due("polygon 0", 0, () -> new PlaneOverlay().clear(0));
        due("polygon 1", 0, () -> new PlaneOverlay().clear(1));
        due("its overlay has no piece", 0, () -> new PlaneOverlay().overlay());
        dueSizes("its overlay", laid(NOTHING, NOTHING), 0, 0, 0, 1, 0);
    }

    private static void newObjectHasNoOverlay() {
        thrown("size", STATE, () -> new PlaneOverlay().size(0));
        thrown("point", STATE, () -> new PlaneOverlay().point(0, 0));
        thrown("piece", STATE, () -> new PlaneOverlay().piece(0, 0));
        thrown("common", STATE, () -> new PlaneOverlay().common(0, 0));
        thrown("shared", STATE, () -> new PlaneOverlay().shared(0, 0, true));
        thrown("bounds", STATE, () -> new PlaneOverlay().bounds(0));
        thrown("bound", STATE, () -> new PlaneOverlay().bound(0, 0));
        thrown("where", STATE, () -> new PlaneOverlay().where(0, 0, 0, 1));
        thrown("area", STATE, () -> new PlaneOverlay().area(0));
    }

    private static void newObjectKnowsNothingOfAnother() {
        PlaneOverlay other = laid(HEXAGON, SQUARE);
        PlaneOverlay x = new PlaneOverlay();
        thrown("no overlay", STATE, () -> x.size(0));
        due("no vertex in 0", 0, () -> x.clear(0));
        due("no vertex in 1", 0, () -> x.clear(1));
        due("its own overlay", 0, x::overlay);
        due("the other one stays full", 10, () -> other.size(0));
        due("the other one keeps its vertices", 6, () -> other.clear(0));
    }

    private static void everyCallUpToThe512thIsAnswered() {
        PlaneOverlay x = new PlaneOverlay();
        for (int call = 0; call < CALLS_OF_AN_OBJECT; call += 8) {
            for (int n = 1; n <= 6; n++) {
                int want = n;
                due("vertex", want, () -> x.vertex(0, HEXAGON[2 * want - 2], HEXAGON[2 * want - 1]));
            }
            due("overlay", 6, x::overlay);
            due("clear", 6, () -> x.clear(0));
        }
        PlaneOverlay y = laid(SQUARE, MOVED_SQUARE);
        for (int call = 9; call < CALLS_OF_AN_OBJECT; call++) {
            due("area", 56, () -> y.area(0));
        }
    }

    private static void vertexTellsHowManyThereAreThen() {
        for (int polygon = 0; polygon < 2; polygon++) {
            int asks = polygon;
            PlaneOverlay x = new PlaneOverlay();
            for (int n = 1; n <= 6; n++) {
                due("vertex " + n, n, () -> x.vertex(asks, 1, 2));
            }
        }
    }

    private static void vertexGoesToTheEnd() {
        // In this order the square crosses itself; in any other one it does not, or other edges cross.
        PlaneOverlay x = laid(new int[] {0, 0, 4, 4, 4, 0, 0, 4}, NOTHING);
        due("edges 0 and 2 cross", 1, () -> x.common(0, 2));
        due("edges 1 and 3 do not", 0, () -> x.common(1, 3));
        duePoint("where they cross", x, x.shared(0, 2, false), 2, 2, 1);
        due("edge 0 ends where edge 1 begins", 4, () -> x.shared(0, 1, false));
    }

    private static void vertexRefusesPolygons(int[] polygons) {
        for (int polygon : polygons) {
            PlaneOverlay x = new PlaneOverlay();
            thrown("vertex(" + polygon + ", 0, 0)", ARGUMENT, () -> x.vertex(polygon, 0, 0));
            due("polygon 0 has none", 0, () -> x.clear(0));
            due("polygon 1 has none", 0, () -> x.clear(1));
        }
    }

    private static void vertexRefusesX(int[] coordinates) {
        for (int polygon = 0; polygon < 2; polygon++) {
            int asks = polygon;
            for (int at : coordinates) {
                PlaneOverlay x = new PlaneOverlay();
                thrown("vertex(" + polygon + ", " + at + ", 0)", ARGUMENT, () -> x.vertex(asks, at, 0));
                due("the polygon has none", 0, () -> x.clear(asks));
            }
        }
    }

    private static void vertexRefusesY(int[] coordinates) {
        for (int polygon = 0; polygon < 2; polygon++) {
            int asks = polygon;
            for (int at : coordinates) {
                PlaneOverlay x = new PlaneOverlay();
                thrown("vertex(" + polygon + ", 0, " + at + ")", ARGUMENT, () -> x.vertex(asks, 0, at));
                due("the polygon has none", 0, () -> x.clear(asks));
            }
        }
    }

    private static void vertexTakesTheFarthestCoordinates() {
        int[] corners = {-30, -30, 30, -30, 30, 30, -30, 30};
        for (int polygon = 0; polygon < 2; polygon++) {
            int asks = polygon;
            PlaneOverlay x = new PlaneOverlay();
            for (int k = 0; k < 4; k++) {
                int n = k;
                due("corner " + k, k + 1, () -> x.vertex(asks, corners[2 * n], corners[2 * n + 1]));
            }
            due("overlay", 4, x::overlay);
            duePoint("least", x, 0, -30, -30, 1);
            duePoint("greatest", x, 3, 30, 30, 1);
            due("twice the area", 7200, () -> x.area(0));
        }
    }

    private static void seventhVertexIsRefused() {
        for (int polygon = 0; polygon < 2; polygon++) {
            int asks = polygon;
            PlaneOverlay x = new PlaneOverlay();
            put(x, polygon, HEXAGON);
            thrown("7th vertex", STATE, () -> x.vertex(asks, 1, 1));
            thrown("7th vertex, again", STATE, () -> x.vertex(asks, 1, 1));
            due("there are 6 still", 6, () -> x.clear(asks));
        }
    }

    private static void fullPolygonLeavesTheOtherOneRoom() {
        PlaneOverlay x = new PlaneOverlay();
        put(x, 0, HEXAGON);
        for (int n = 1; n <= 6; n++) {
            due("vertex " + n + " of polygon 1", n, () -> x.vertex(1, 0, 0));
        }
        thrown("both are full, 0", STATE, () -> x.vertex(0, 0, 0));
        thrown("both are full, 1", STATE, () -> x.vertex(1, 0, 0));
    }

    private static void verticesMayBeTheSame() {
        PlaneOverlay x = laid(TRIANGLE, TRIANGLE);
        due("as one there is", 4, () -> x.vertex(0, 4, 0));
        due("as the one before", 5, () -> x.vertex(0, 4, 0));
        due("as one of the other polygon", 4, () -> x.vertex(1, 4, 0));
    }

    private static void clearTellsHowManyThereWere() {
        for (int polygon = 0; polygon < 2; polygon++) {
            int asks = polygon;
            PlaneOverlay x = new PlaneOverlay();
            due("none", 0, () -> x.clear(asks));
            x.vertex(polygon, 1, 1);
            due("one", 1, () -> x.clear(asks));
            put(x, polygon, HEXAGON);
            due("six", 6, () -> x.clear(asks));
            due("none again", 0, () -> x.clear(asks));
        }
    }

    private static void clearLeavesNoVertex() {
        PlaneOverlay x = new PlaneOverlay();
        put(x, 0, HEXAGON);
        put(x, 1, SQUARE);
        x.clear(0);
        due("overlay of polygon 1 alone", 4, x::overlay);
        x.clear(1);
        due("overlay of nothing", 0, x::overlay);
        put(x, 0, TRIANGLE);
        due("overlay of the new vertices alone", 3, x::overlay);
        dueSizes("new vertices", x, 3, 3, 3, 2, 3);
    }

    private static void clearLeavesTheOtherPolygon() {
        PlaneOverlay x = new PlaneOverlay();
        put(x, 0, SQUARE);
        put(x, 1, HEXAGON);
        due("clear 0", 4, () -> x.clear(0));
        put(x, 0, TRIANGLE);
        due("clear 1", 6, () -> x.clear(1));
        due("clear 0 again", 3, () -> x.clear(0));
    }

    private static void clearedPolygonTakesSixAgain() {
        PlaneOverlay x = new PlaneOverlay();
        put(x, 0, HEXAGON);
        x.clear(0);
        for (int n = 1; n <= 6; n++) {
            due("vertex " + n, n, () -> x.vertex(0, 3, 3));
        }
        thrown("7th vertex", STATE, () -> x.vertex(0, 3, 3));
    }

    private static void clearRefusesPolygons(int[] polygons) {
        for (int polygon : polygons) {
            PlaneOverlay x = new PlaneOverlay();
            put(x, 0, TRIANGLE);
            put(x, 1, SQUARE);
            thrown("clear(" + polygon + ")", ARGUMENT, () -> x.clear(polygon));
            due("polygon 0 has its vertices", 3, () -> x.clear(0));
            due("polygon 1 has its vertices", 4, () -> x.clear(1));
        }
    }

    private static void dueNoEdge(String what, int[] vertices) {
        for (int polygon = 0; polygon < 2; polygon++) {
            int asks = polygon;
            PlaneOverlay x = polygon == 0 ? laid(vertices, NOTHING) : laid(NOTHING, vertices);
            dueSizes(what, x, 0, 0, 0, 1, 0);
            due(what + " where", 0, () -> x.where(asks, 5, 6, 1));
        }
    }

    private static void fewerThanTwoVerticesHaveNoEdge() {
        dueNoEdge("no vertex", NOTHING);
        dueNoEdge("one vertex", new int[] {5, 6});
        dueSizes("one vertex each", laid(new int[] {5, 6}, new int[] {7, 8}), 0, 0, 0, 1, 0);
        // A vertex alone does not cut an edge of the other polygon on which it lies.
        dueSizes("one vertex on an edge", laid(new int[] {2, 0}, TRIANGLE), 3, 3, 3, 2, 3);
    }

    private static void twoVerticesHaveAnEdgeThereAndOneBack() {
        dueSizes("polygon 0", laid(new int[] {5, 6, 7, 8}, NOTHING), 2, 2, 1, 1, 1);
        dueSizes("polygon 1", laid(NOTHING, new int[] {5, 6, 7, 8}), 2, 2, 1, 1, 1);
        due("two edges lie on the piece", 2, () -> laid(new int[] {5, 6, 7, 8}, NOTHING).piece(0, 2));
    }

    private static void theLastVertexHasAnEdgeToTheFirst() {
        // The line of polygon 1 crosses the left side of the triangle alone, which closes it.
        // Points: (-1,1) (0,0) (0,1) (0,4) (1,1) (4,0).
        PlaneOverlay x = laid(TRIANGLE, new int[] {-1, 1, 1, 1});
        due("edges", 5, () -> x.size(0));
        due("it ends where edge 0 begins", 1, () -> x.shared(2, 0, false));
        due("it begins where edge 1 ends", 3, () -> x.shared(2, 1, false));
        due("the line meets it", 1, () -> x.common(2, 3));
        due("the line does not meet edge 0", 0, () -> x.common(0, 3));
        due("the line does not meet edge 1", 0, () -> x.common(1, 3));
    }

    private static void noEdgeBetweenNeighboursThatAreTheSame() {
        dueNoEdge("two the same", new int[] {5, 6, 5, 6});
        dueNoEdge("six the same", new int[] {5, 6, 5, 6, 5, 6, 5, 6, 5, 6, 5, 6});
        dueSizes("at the beginning", laid(new int[] {0, 0, 0, 0, 4, 0, 0, 4}, NOTHING), 3, 3, 3, 2, 3);
        dueSizes("in the middle", laid(new int[] {0, 0, 4, 0, 4, 0, 4, 0, 0, 4}, NOTHING), 3, 3, 3, 2, 3);
        dueSizes("at the end", laid(NOTHING, new int[] {0, 0, 4, 0, 0, 4, 0, 4}), 3, 3, 3, 2, 3);
        dueSizes("only x is the same", laid(new int[] {5, 6, 5, 7}, NOTHING), 2, 2, 1, 1, 1);
        dueSizes("only y is the same", laid(new int[] {5, 6, 4, 6}, NOTHING), 2, 2, 1, 1, 1);
    }

    private static void noEdgeFromTheLastToTheFirstIfTheyAreTheSame() {
        dueSizes("polygon 0", laid(new int[] {0, 0, 4, 0, 0, 4, 0, 0}, NOTHING), 3, 3, 3, 2, 3);
        dueSizes("polygon 1", laid(NOTHING, new int[] {0, 0, 4, 0, 0, 4, 0, 0}), 3, 3, 3, 2, 3);
        dueSizes("there and back", laid(new int[] {5, 6, 7, 8, 5, 6}, NOTHING), 2, 2, 1, 1, 1);
    }

    private static void verticesApartInARowThatAreTheSameTakeNoEdge() {
        // Two triangles that hang together in (0, 0), which comes twice.
        PlaneOverlay x = laid(new int[] {0, 0, 4, 0, 4, 4, 0, 0, -4, 0, -4, -4}, NOTHING);
        dueSizes("two triangles", x, 6, 5, 6, 3, 10);
    }

    private static void edgesAreNumberedByTheVerticesInWhichTheyBegin() {
        // Without those of no length there are 0: (0,0)-(4,0), 1: (4,0)-(0,4), 2: (0,4)-(0,0), 3 and 4: the line.
        PlaneOverlay x = laid(new int[] {0, 0, 0, 0, 4, 0, 4, 0, 0, 4, 0, 0}, new int[] {3, 3, 3, 3, 1, 1});
        due("edges", 5, () -> x.size(0));
        due("edge 1 meets the line", 1, () -> x.common(1, 3));
        due("edge 1 meets the way back", 1, () -> x.common(1, 4));
        due("edge 0 does not", 0, () -> x.common(0, 3));
        due("edge 2 does not", 0, () -> x.common(2, 4));
        thrown("there is no edge 5", INDEX, () -> x.common(0, 5));
        PlaneOverlay one = laid(new int[] {9, 9}, TRIANGLE);
        due("polygon 1 begins with 0 if polygon 0 has no edge", 2, () -> one.shared(0, 1, false));
        thrown("and ends with 2", INDEX, () -> one.common(0, 3));
    }

    private static void twoFullPolygonsHaveTwelveEdges() {
        PlaneOverlay x = laid(HEXAGON, HEXAGON);
        dueSizes("the same hexagon", x, 12, 6, 6, 2, 30);
        due("the last edges lie on one another", 2, () -> x.common(5, 11));
        due("the last edge meets the first of its polygon", 1, () -> x.common(11, 6));
        thrown("there is no edge 12", INDEX, () -> x.common(12, 0));
    }

    private static void polygonMayCrossItself() {
        PlaneOverlay x = laid(new int[] {0, 0, 4, 4, 4, 0, 0, 4}, NOTHING);
        dueSizes("it", x, 4, 5, 6, 3, 5);
        due("its left part is inside", 1, () -> x.where(0, 1, 2, 1));
        due("its right part is inside", 1, () -> x.where(0, 3, 2, 1));
        due("above its middle is outside", 0, () -> x.where(0, 2, 3, 1));
        due("below its middle is outside", 0, () -> x.where(0, 2, 1, 1));
        due("twice the area of both parts", 16, () -> x.area(0));
    }

    private static void testPromise1() {
        test("1: No vertices.", PolygonBoundaryTest::newObjectHasNoVertices);
        test("1: No overlay.", PolygonBoundaryTest::newObjectHasNoOverlay);
        test("1: A new object.", PolygonBoundaryTest::newObjectKnowsNothingOfAnother);
        test("An object is used for at most 512 calls.", PolygonBoundaryTest::everyCallUpToThe512thIsAnswered);
    }

    private static void testPromise2() {
        test("2: How many it has then.", PolygonBoundaryTest::vertexTellsHowManyThereAreThen);
        test("2: Puts a vertex at the end.", PolygonBoundaryTest::vertexGoesToTheEnd);
        test("2: The polygon is not 0 or 1: too small.", () -> vertexRefusesPolygons(TOO_SMALL_POLYGONS));
        test("2: The polygon is not 0 or 1: too large.", () -> vertexRefusesPolygons(TOO_LARGE_POLYGONS));
        test("2: A coordinate is out of range: x too small.", () -> vertexRefusesX(TOO_SMALL_COORDINATES));
        test("2: A coordinate is out of range: x too large.", () -> vertexRefusesX(TOO_LARGE_COORDINATES));
        test("2: A coordinate is out of range: y too small.", () -> vertexRefusesY(TOO_SMALL_COORDINATES));
        test("2: A coordinate is out of range: y too large.", () -> vertexRefusesY(TOO_LARGE_COORDINATES));
        test("Terms: whole coordinates -30 .. 30.", PolygonBoundaryTest::vertexTakesTheFarthestCoordinates);
        test("2: Illegal state: it has 6.", PolygonBoundaryTest::seventhVertexIsRefused);
        test("Terms: each is a row of at most 6.", PolygonBoundaryTest::fullPolygonLeavesTheOtherOneRoom);
        test("Terms: they may be the same.", PolygonBoundaryTest::verticesMayBeTheSame);
    }

    private static void testPromise3() {
        test("3: How many it had.", PolygonBoundaryTest::clearTellsHowManyThereWere);
        test("3: A polygon has no vertices any more.", PolygonBoundaryTest::clearLeavesNoVertex);
        test("3: A polygon, not the other one.", PolygonBoundaryTest::clearLeavesTheOtherPolygon);
        test("3: No vertices, so that 6 can be put.", PolygonBoundaryTest::clearedPolygonTakesSixAgain);
        test("3: It is not 0 or 1: too small.", () -> clearRefusesPolygons(TOO_SMALL_POLYGONS));
        test("3: It is not 0 or 1: too large.", () -> clearRefusesPolygons(TOO_LARGE_POLYGONS));
    }

    private static void testEdges() {
        test("Terms: A polygon with fewer vertices has no edge.", PolygonBoundaryTest::fewerThanTwoVerticesHaveNoEdge);
        test("Terms: Two vertices or more: it has edges.", PolygonBoundaryTest::twoVerticesHaveAnEdgeThereAndOneBack);
        test("Terms: And from the last one to the first.", PolygonBoundaryTest::theLastVertexHasAnEdgeToTheFirst);
        test("Terms: But none where these two are the same.",
                PolygonBoundaryTest::noEdgeBetweenNeighboursThatAreTheSame);
        test("Terms: None where these two are the same, the last and the first.",
                PolygonBoundaryTest::noEdgeFromTheLastToTheFirstIfTheyAreTheSame);
        test("Terms: Only these two.", PolygonBoundaryTest::verticesApartInARowThatAreTheSameTakeNoEdge);
        test("Terms: Edges are numbered.", PolygonBoundaryTest::edgesAreNumberedByTheVerticesInWhichTheyBegin);
        test("Terms: At most 6 vertices, in both.", PolygonBoundaryTest::twoFullPolygonsHaveTwelveEdges);
        test("Terms: A polygon may cross itself.", PolygonBoundaryTest::polygonMayCrossItself);
    }

    public static void main(String[] args) {
        testPromise1();
        testPromise2();
        testPromise3();
        testEdges();
        end();
    }
}
