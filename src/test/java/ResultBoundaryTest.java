/** Boundary cases of the results, of where and of area: "Terms" and promises 10 to 13, a test for each sentence. */
public final class ResultBoundaryTest extends OverlayTest {
    private static final int[] TOO_SMALL_RESULTS = {-1, -2, LEAST};
    private static final int[] TOO_LARGE_RESULTS = {4, 5, MOST};
    private static final int[] TRIANGLE = {0, 0, 4, 0, 0, 4};
    private static final int[] LINE = {0, 0, 3, 1};
    private static final int[] BESIDE = {4, 0, 8, 0, 8, 4, 4, 4};

    private static void dueNoBounds(String what, PlaneOverlay x, int... results) {
        for (int result : results) {
            dueBounds(what, x, result);
            due(what + " area(" + result + ")", 0.0, () -> x.area(result));
        }
    }

    private static void resultsWithoutAPiece() {
        dueNoBounds("no edge", laid(NOTHING, NOTHING), 0, 1, 2, 3);
        dueNoBounds("lines", laid(LINE, new int[] {0, 1, 1, 0}), 0, 1, 2, 3);
        dueNoBounds("apart", laid(SQUARE, new int[] {9, 9, 8, 9, 9, 8}), 1);
        dueNoBounds("the same", laid(SQUARE, SQUARE), 2, 3);
        dueNoBounds("polygon 1 alone", laid(NOTHING, SQUARE), 1, 2);
        dueNoBounds("polygon 0 alone", laid(SQUARE, NOTHING), 1);
        dueNoBounds("0 within 1", laid(TRIANGLE, new int[] {-9, -9, 9, -9, 9, 9, -9, 9}), 2);
        dueNoBounds("walked twice", laid(new int[] {0, 0, 4, 0, 0, 4, 0, 0, 4, 0, 0, 4}, NOTHING), 0, 1, 2, 3);
    }

    private static void oneSideInsideTheOtherNot() {
        // Pieces: 0 (0,0)-(0,4), 1 (0,0)-(4,0), 2 (0,4)-(4,4), 3 (4,0)-(4,4) in both, then those of polygon 1.
        PlaneOverlay beside = laid(SQUARE, BESIDE);
        dueBounds("the piece between does not bound the union", beside, 0, 0, 1, 2, 4, 5, 6);
        dueBounds("nor the intersection", beside, 1);
        dueBounds("it bounds the difference", beside, 2, 0, 1, 2, 3);
        dueBounds("it does not bound what is inside just one", beside, 3, 0, 1, 2, 4, 5, 6);
        PlaneOverlay same = laid(SQUARE, SQUARE);
        dueBounds("edges of both bound the union", same, 0, 0, 1, 2, 3);
        dueBounds("edges of both bound the intersection", same, 1, 0, 1, 2, 3);
        // Points: (0,0) (0,9) (1,1) (1,3) (3,1) (9,0): pieces 3, 4, 5 are those of the hole.
        PlaneOverlay hole = laid(new int[] {0, 0, 9, 0, 0, 9}, new int[] {1, 1, 3, 1, 1, 3});
        dueBounds("edges of 1 in 0 do not bound the union", hole, 0, 0, 1, 2);
        dueBounds("edges of 1 in 0 bound the intersection", hole, 1, 3, 4, 5);
        dueBounds("edges of 1 in 0 bound the difference", hole, 2, 0, 1, 2, 3, 4, 5);
        PlaneOverlay turned = laid(new int[] {1, 1, 3, 1, 1, 3}, new int[] {0, 0, 9, 0, 0, 9});
        dueBounds("edges of 0 in 1 do not bound the difference", turned, 2);
        dueBounds("edges of 0 in 1 bound what is inside just one", turned, 3, 0, 1, 2, 3, 4, 5);
    }

    private static void boundsRefuses(int... results) {
        for (int result : results) {
            thrown("bounds(" + result + ")", ARGUMENT, () -> laid(SQUARE, MOVED_SQUARE).bounds(result));
            thrown("no edge, bounds(" + result + ")", ARGUMENT, () -> laid(NOTHING, NOTHING).bounds(result));
        }
    }

    private static void boundRefusesResults(int... results) {
        for (int result : results) {
            thrown("bound(" + result + ", 0)", ARGUMENT, () -> laid(SQUARE, MOVED_SQUARE).bound(result, 0));
            thrown("no edge, bound(" + result + ", 0)", ARGUMENT, () -> laid(NOTHING, NOTHING).bound(result, 0));
        }
    }

    private static void boundCountsFromNought() {
        PlaneOverlay x = laid(SQUARE, MOVED_SQUARE);
        due("the first", 3, () -> x.bound(1, 0));
        due("the last", 9, () -> x.bound(1, 3));
        thrown("behind the last", ELEMENT, () -> x.bound(1, 4));
        due("the last of all", 11, () -> x.bound(3, 11));
        thrown("behind the last of all", ELEMENT, () -> x.bound(3, 12));
    }

    private static void boundRefusesK(int... numbers) {
        for (int k : numbers) {
            for (int result = 0; result < 4; result++) {
                int asks = result;
                thrown("bound(" + result + ", " + k + ")", ELEMENT,
                        () -> laid(SQUARE, MOVED_SQUARE).bound(asks, k));
                thrown("no edge, bound(" + result + ", " + k + ")", ELEMENT,
                        () -> laid(NOTHING, NOTHING).bound(asks, k));
            }
        }
    }

    private static void boundGrows() {
        PlaneOverlay x = laid(SQUARE, MOVED_SQUARE);
        dueBounds("union", x, 0, 0, 1, 2, 5, 7, 8, 10, 11);
        dueBounds("intersection", x, 1, 3, 4, 6, 9);
        dueBounds("difference", x, 2, 0, 1, 2, 3, 4, 8);
        dueBounds("just one", x, 3, 0, 1, 2, 3, 4, 5, 6, 7, 8, 9, 10, 11);
    }

    private static void whereRefuses(String what, int[]... calls) {
        PlaneOverlay x = laid(SQUARE, MOVED_SQUARE);
        for (int[] c : calls) {
            thrown("where: " + what, ARGUMENT, () -> x.where(c[0], c[1], c[2], c[3]));
            thrown("where, no edge: " + what, ARGUMENT,
                    () -> laid(NOTHING, NOTHING).where(c[0], c[1], c[2], c[3]));
        }
    }

    private static void whereTakesTheFarthestPoints() {
        PlaneOverlay x = laid(SQUARE, MOVED_SQUARE);
        for (int far : new int[] {-100000, 100000}) {
            for (int d : new int[] {1, 1000}) {
                for (int polygon = 0; polygon < 2; polygon++) {
                    int asks = polygon;
                    due("far x", 0, () -> x.where(asks, far, 3, d));
                    due("far y", 0, () -> x.where(asks, 3, far, d));
                    due("far both", 0, () -> x.where(asks, far, far, d));
                    due("far corner", 0, () -> x.where(asks, far, -far, d));
                }
            }
        }
    }

    private static void whereTakesTheLeastAndTheGreatestDivisor() {
        PlaneOverlay x = laid(SQUARE, MOVED_SQUARE);
        due("1, inside", 1, () -> x.where(0, 1, 1, 1));
        due("1000, inside", 1, () -> x.where(0, 1, 1, 1000));
        due("1000, on an edge", 2, () -> x.where(0, 4000, 1, 1000));
        due("1000, outside", 0, () -> x.where(0, -1, 1, 1000));
        PlaneOverlay corners = laid(new int[] {-30, -30, 30, -30, 30, 30, -30, 30}, NOTHING);
        due("a far corner", 2, () -> corners.where(0, 30000, 30000, 1000));
        due("just in it", 1, () -> corners.where(0, 29999, 29999, 1000));
        due("just out of it", 0, () -> corners.where(0, 30001, 29999, 1000));
        due("just above it", 0, () -> corners.where(0, -30000, 30001, 1000));
    }

    private static void whereTellsAnEdgeWithBothItsEnds() {
        PlaneOverlay x = laid(new int[] {0, 0, 6, 3, 0, 9}, NOTHING);
        due("the first end", 2, () -> x.where(0, 0, 0, 1));
        due("the last end", 2, () -> x.where(0, 6, 3, 1));
        due("between them", 2, () -> x.where(0, 2, 1, 1));
        due("between whole points", 2, () -> x.where(0, 2, 1, 2));
        due("in other terms", 2, () -> x.where(0, 14, 7, 7));
        due("behind the end, on its line", 0, () -> x.where(0, 8, 4, 1));
        due("before the beginning, on its line", 0, () -> x.where(0, -2, -1, 1));
        due("just above it", 1, () -> x.where(0, 2000, 1001, 1000));
        due("just below it", 0, () -> x.where(0, 2000, 999, 1000));
        due("above an upright one, on its line", 0, () -> x.where(0, 0, 10, 1));
        due("below an upright one, on its line", 0, () -> x.where(0, 0, -1, 1));
        PlaneOverlay flat = laid(SQUARE, NOTHING);
        due("left of a flat one, on its line", 0, () -> flat.where(0, -1, 4, 1));
        due("right of a flat one, on its line", 0, () -> flat.where(0, 5, 4, 1));
    }

    private static void whereAsksForOnePolygon() {
        PlaneOverlay x = laid(SQUARE, MOVED_SQUARE);
        due("on an edge of 0", 2, () -> x.where(0, 4, 3, 1));
        due("which is inside 1", 1, () -> x.where(1, 4, 3, 1));
        due("on an edge of 0, again", 2, () -> x.where(0, 4, 1, 1));
        due("which is outside of 1", 0, () -> x.where(1, 4, 1, 1));
        due("where both meet, 0", 2, () -> x.where(0, 4, 2, 1));
        due("where both meet, 1", 2, () -> x.where(1, 4, 2, 1));
    }

    private static void whereTellsAnEdgeBeforeInside() {
        PlaneOverlay way = laid(new int[] {0, 0, 8, 0, 0, 8, 0, 4, 2, 4, 0, 4}, NOTHING);
        due("on a way in and back", 2, () -> way.where(0, 1, 4, 1));
        due("on its end", 2, () -> way.where(0, 2, 4, 1));
        due("just above it", 1, () -> way.where(0, 1000, 4001, 1000));
        due("just below it", 1, () -> way.where(0, 1000, 3999, 1000));
        due("on a line alone", 2, () -> laid(LINE, NOTHING).where(0, 3, 1, 2));
    }

    private static void whereWithoutAnEdge() {
        due("no vertices", 0, () -> laid(NOTHING, SQUARE).where(0, 1, 1, 1));
        due("the other polygon has no vertices", 0, () -> laid(SQUARE, NOTHING).where(1, 1, 1, 1));
        due("on a vertex alone", 0, () -> laid(new int[] {1, 1}, SQUARE).where(0, 1, 1, 1));
        due("on two vertices in one place", 0, () -> laid(new int[] {1, 1, 1, 1}, SQUARE).where(0, 1, 1, 1));
    }

    private static void whereAsksTheOverlay() {
        PlaneOverlay x = laid(SQUARE, NOTHING);
        x.clear(0);
        put(x, 0, new int[] {20, 20, 24, 20, 24, 24, 20, 24});
        put(x, 1, SQUARE);
        due("what was inside is", 1, () -> x.where(0, 1, 1, 1));
        due("what was an edge is", 2, () -> x.where(0, 4, 1, 1));
        due("what will be inside is not", 0, () -> x.where(0, 22, 22, 1));
        due("polygon 1 had no edge", 0, () -> x.where(1, 1, 1, 1));
    }

    private static void whereRayGoesThroughNoVertex() {
        PlaneOverlay x = laid(new int[] {0, -3, 3, 0, 0, 3, -3, 0}, NOTHING);
        int[][] outside = {{0, -4}, {0, 4}, {-4, 0}, {4, 0}, {-3, -3}, {-3, 3}, {3, -3}, {3, 3}};
        for (int[] at : outside) {
            due("in line with corners", 0, () -> x.where(0, at[0], at[1], 1));
        }
        int[][] inside = {{0, 0}, {0, -2}, {0, 2}, {-2, 0}, {2, 0}};
        for (int[] at : inside) {
            due("in line with corners, inside", 1, () -> x.where(0, at[0], at[1], 1));
        }
        // Sides of the square lie in line with the points.
        PlaneOverlay square = laid(SQUARE, NOTHING);
        int[][] besides = {{0, -1}, {4, -1}, {0, 5}, {4, 5}, {-1, 0}, {-1, 4}, {5, 0}, {5, 4}};
        for (int[] at : besides) {
            due("in line with sides", 0, () -> square.where(0, at[0], at[1], 1));
        }
    }

    private static void areaRefuses(int... results) {
        for (int result : results) {
            thrown("area(" + result + ")", ARGUMENT, () -> laid(SQUARE, MOVED_SQUARE).area(result));
            thrown("no edge, area(" + result + ")", ARGUMENT, () -> laid(NOTHING, NOTHING).area(result));
        }
    }

    private static void areaOfNothing() {
        dueAreas("no edge", laid(NOTHING, NOTHING), 0.0, 0.0, 0.0, 0.0);
        dueAreas("one vertex each", laid(new int[] {1, 1}, new int[] {2, 2}), 0.0, 0.0, 0.0, 0.0);
        dueAreas("lines", laid(LINE, new int[] {0, 1, 1, 0}), 0.0, 0.0, 0.0, 0.0);
        dueAreas("apart", laid(SQUARE, BESIDE), 64, 0.0, 32, 64);
        dueAreas("the same", laid(SQUARE, SQUARE), 32, 32, 0.0, 0.0);
    }

    private static void areaHasItsSign() {
        int[] turned = {0, 0, 0, 4, 4, 4, 4, 0};
        dueAreas("walked the one way", laid(SQUARE, MOVED_SQUARE), 56, 8, 24, 48);
        dueAreas("walked the other way", laid(turned, MOVED_SQUARE), 56, 8, 24, 48);
        dueAreas("below nought", laid(new int[] {-9, -9, -5, -9, -5, -5}, NOTHING), 16, 0.0, 16, 16);
        dueAreas("a hole", laid(new int[] {0, 0, 9, 0, 0, 9}, new int[] {1, 1, 3, 1, 1, 3}), 81, 4, 77, 77);
        dueAreas("all there is", laid(new int[] {-30, -30, 30, -30, 30, 30, -30, 30}, NOTHING), 7200, 0.0, 7200, 7200);
    }

    private static void areaIsRoundedStepByStep() {
        // Worked out by a program of its own; in another order, or rounded elsewhere, each sum differs in its last
        // digits.
        dueAreas("ten points", laid(new int[] {4, 9, 4, 10, 7, -4}, new int[] {-10, 9, 3, -1, 9, -4}),
                23.977918023367163, 0.022081976632828876, 2.9779180233671645, 23.955836046734333);
        dueAreas("ten points more", laid(new int[] {-2, 0, -5, 5, -1, -2}, new int[] {1, 3, -3, 1, 3, 5}),
                4.993010820597032, 0.006989179402972487, 0.9930108205970294, 4.986021641194057);
        // Of what is so small only few digits are right, and the sum is due with the wrong ones too.
        PlaneOverlay sliver = laid(new int[] {-29, -29, -30, 30, -29, -30}, new int[] {27, 30, -30, 29, 28, 30});
        due("a sliver", 2.8698338790014016e-09, () -> sliver.area(1));
    }

    private static void areaTakesGreatProductsExactly() {
        // Products of coordinates here are some 20 thousand millions.
        dueAreas("far", laid(new int[] {-29, -30, -30, -28, 30, -29}, new int[] {30, -30, 29, 30, -29, -29}),
                3571.418575207612, 86.581424792388, 32.41857520761197, 3484.837150415224);
        // Products of divisors here are up to 46457015.
        dueAreas("great divisors", laid(new int[] {-29, -28, -24, 29, 30, 30}, new int[] {29, -29, -29, 30, 28, -29}),
                3117.5171008278635, 14.482899172136467, 3058.5171008278635, 3103.034201655727);
        dueAreas("full polygons", laid(new int[] {-30, 1, 30, -2, -29, 9, 29, -11, -28, 17, 27, 14},
                new int[] {1, -30, -2, 30, 9, -29, -11, 29, 17, -28, 14, 27}),
                1547.9720937215916, 196.2055811342487, 675.8832562936715, 1351.7665125873425);
    }

    private static void testPromises10And11() {
        test("10: How many pieces bound a result: none.", ResultBoundaryTest::resultsWithoutAPiece);
        test("Terms: One of its sides is inside it and the other one is not.",
                ResultBoundaryTest::oneSideInsideTheOtherNot);
        test("10: There is no such result: too small.", () -> boundsRefuses(TOO_SMALL_RESULTS));
        test("10: There is no such result: too large.", () -> boundsRefuses(TOO_LARGE_RESULTS));
        test("11: There is no such result: too small.", () -> boundRefusesResults(TOO_SMALL_RESULTS));
        test("11: There is no such result: too large.", () -> boundRefusesResults(TOO_LARGE_RESULTS));
        test("11: The k-th piece (from 0).", ResultBoundaryTest::boundCountsFromNought);
        test("11: There is no k-th one: too small.", () -> boundRefusesK(-1, -2, LEAST));
        test("11: There is no k-th one: too large.", () -> boundRefusesK(12, 13, MOST));
        test("11: By growing numbers.", ResultBoundaryTest::boundGrows);
    }

    private static void testPromise12() {
        test("12: The polygon is not 0 or 1: too small.",
                () -> whereRefuses("polygon", new int[] {-1, 0, 0, 1}, new int[] {LEAST, 0, 0, 1}));
        test("12: The polygon is not 0 or 1: too large.",
                () -> whereRefuses("polygon", new int[] {2, 0, 0, 1}, new int[] {MOST, 0, 0, 1}));
        test("12: x is not -100000 .. 100000: too small.",
                () -> whereRefuses("x", new int[] {0, -100001, 0, 1}, new int[] {1, LEAST, 0, 1000}));
        test("12: x is not -100000 .. 100000: too large.",
                () -> whereRefuses("x", new int[] {0, 100001, 0, 1}, new int[] {1, MOST, 0, 1000}));
        test("12: y is not -100000 .. 100000: too small.",
                () -> whereRefuses("y", new int[] {0, 0, -100001, 1}, new int[] {1, 0, LEAST, 1000}));
        test("12: y is not -100000 .. 100000: too large.",
                () -> whereRefuses("y", new int[] {0, 0, 100001, 1}, new int[] {1, 0, MOST, 1000}));
        test("12: d is not 1 .. 1000: too small.",
                () -> whereRefuses("d", new int[] {0, 0, 0, 0}, new int[] {1, 0, 0, -1}, new int[] {1, 0, 0, LEAST}));
        test("12: d is not 1 .. 1000: too large.",
                () -> whereRefuses("d", new int[] {0, 0, 0, 1001}, new int[] {1, 0, 0, MOST}));
        test("12: x or y: -100000 and 100000.", ResultBoundaryTest::whereTakesTheFarthestPoints);
        test("12: d: 1 and 1000.", ResultBoundaryTest::whereTakesTheLeastAndTheGreatestDivisor);
        test("12: 2 on an edge; Terms: with both of its ends.", ResultBoundaryTest::whereTellsAnEdgeWithBothItsEnds);
        test("12: An edge of the polygon, not of the other one.", ResultBoundaryTest::whereAsksForOnePolygon);
        test("12: 2 on an edge, else 1 inside it.", ResultBoundaryTest::whereTellsAnEdgeBeforeInside);
        test("12: 0 outside, of a polygon with no edge.", ResultBoundaryTest::whereWithoutAnEdge);
        test("12: Of the polygon in the overlay.", ResultBoundaryTest::whereAsksTheOverlay);
        test("Terms: A ray which goes through no vertex.", ResultBoundaryTest::whereRayGoesThroughNoVertex);
    }

    private static void testPromise13() {
        test("13: There is no such result: too small.", () -> areaRefuses(TOO_SMALL_RESULTS));
        test("13: There is no such result: too large.", () -> areaRefuses(TOO_LARGE_RESULTS));
        test("13: From 0.0 on, with no piece.", ResultBoundaryTest::areaOfNothing);
        test("13: s is 1 if the left side is inside the result, else -1.", ResultBoundaryTest::areaHasItsSign);
        test("13: Each step is rounded as doubles are.", ResultBoundaryTest::areaIsRoundedStepByStep);
        test("13: Whole numbers that are exact.", ResultBoundaryTest::areaTakesGreatProductsExactly);
    }

    public static void main(String[] args) {
        testPromises10And11();
        testPromise12();
        testPromise13();
        end();
    }
}
