/** Boundary cases of an overlay, its points and its pieces: "Terms" and promises 4 to 7, a test for each sentence. */
public final class PieceBoundaryTest extends OverlayTest {
    private static final int[] TRIANGLE = {0, 0, 4, 0, 0, 4};
    // Two triangles out to the far corners: their pieces run between points with divisors of some 3600.
    private static final int[] FAR = {-29, -30, -30, -28, 30, -29};
    private static final int[] OTHER_FAR = {30, -30, 29, 30, -29, -29};
    // Polygons whose edges cross one another as often as this figure allows, all far from whole points.
    private static final int[] WIDE = {-30, 1, 30, -2, -29, 9, 29, -11, -28, 17, 27, 14};
    private static final int[] HIGH = {1, -30, -2, 30, 9, -29, -11, 29, 17, -28, 14, 27};

    private static void overlayOfNoEdgeHasNoPiece() {
        due("no vertices", 0, () -> new PlaneOverlay().overlay());
        PlaneOverlay x = new PlaneOverlay();
        x.vertex(0, 1, 1);
        due("one vertex", 0, x::overlay);
        x.vertex(1, 2, 2);
        due("one vertex each", 0, x::overlay);
        x.vertex(0, 1, 1);
        due("the same vertex twice", 0, x::overlay);
    }

    private static void overlayOfNoEdgeIsAnOverlay() {
        PlaneOverlay x = laid(NOTHING, NOTHING);
        dueSizes("sizes", x, 0, 0, 0, 1, 0);
        thrown("no point", INDEX, () -> x.point(0, 0));
        thrown("no piece", INDEX, () -> x.piece(0, 0));
        thrown("no edge", INDEX, () -> x.common(0, 0));
        thrown("no edge to share", INDEX, () -> x.shared(0, 0, false));
        for (int result = 0; result < 4; result++) {
            int asks = result;
            due("no piece bounds", 0, () -> x.bounds(asks));
            thrown("no bound", ELEMENT, () -> x.bound(asks, 0));
            due("no area", 0.0, () -> x.area(asks));
        }
        due("all is outside of 0", 0, () -> x.where(0, 0, 0, 1));
        due("all is outside of 1", 0, () -> x.where(1, 0, 0, 1));
    }

    private static void overlayOfFullPolygonsHasAllTheirPieces() {
        PlaneOverlay x = new PlaneOverlay();
        put(x, 0, WIDE);
        put(x, 1, HIGH);
        due("overlay", 108, x::overlay);
        dueSizes("sizes", x, 12, 60, 108, 50, 60);
        thrown("behind the last point", INDEX, () -> x.point(60, 0));
        thrown("behind the last piece", INDEX, () -> x.piece(108, 0));
        duePoint("the last point", x, 59, 30, -2, 1);
        duePiece("the last piece", x, 107, 55, 58, 1, 0, 1, 0, 0, 0);
        due("each piece bounds what is inside just one", 108, () -> x.bounds(3));
    }

    private static void overlayStaysWhateverBecomesOfThePolygons() {
        String before = everyAnswer(laid(TRIANGLE, new int[] {1, -1, 1, 5}));
        PlaneOverlay put = laid(TRIANGLE, new int[] {1, -1, 1, 5});
        put.vertex(0, 9, 9);
        put.vertex(1, -9, 9);
        dueSame("after vertex", before, everyAnswer(put));
        PlaneOverlay cleared = laid(TRIANGLE, new int[] {1, -1, 1, 5});
        cleared.clear(0);
        cleared.clear(1);
        dueSame("after clear", before, everyAnswer(cleared));
        PlaneOverlay changed = laid(TRIANGLE, new int[] {1, -1, 1, 5});
        changed.clear(0);
        put(changed, 0, MOVED_SQUARE);
        dueSame("after clear and vertex", before, everyAnswer(changed));
    }

    private static void nextOverlayLeavesNothingOfTheOneBefore() {
        PlaneOverlay x = laid(WIDE, HIGH);
        dueNext("a small one after a great one", x, TRIANGLE, NOTHING);
        dueNext("one of no edge", x, NOTHING, NOTHING);
        dueNext("the other polygon", x, NOTHING, TRIANGLE);
        // Edges 0 and 2 cross in point 4, and then have nothing in common, when there is no point 4.
        PlaneOverlay y = laid(new int[] {0, 0, 4, 4, 4, 0, 0, 4}, new int[] {-5, 0, -4, 0});
        dueNext("edges that met before", y, SQUARE, NOTHING);
        dueNext("a last point that was the last before", laid(new int[] {-1, 0, 0, 3, 4, 0}, NOTHING),
                new int[] {0, 0, 0, 4, 4, 0}, NOTHING);
        dueNext("edges that met before, in two parts", laid(WIDE, HIGH), SQUARE, new int[] {9, 9, 8, 9, 9, 8});
    }

    /** Lays other polygons over one another, on an object that had an overlay, as if it had had none. */
    private static void dueNext(String what, PlaneOverlay x, int[] zero, int[] one) {
        x.clear(0);
        x.clear(1);
        put(x, 0, zero);
        put(x, 1, one);
        PlaneOverlay fresh = laid(zero, one);
        due(what + ", overlay", fresh.size(2), x::overlay);
        dueSame(what, everyAnswer(fresh), everyAnswer(x));
    }

    private static void overlayMadeAgainIsTheSame() {
        PlaneOverlay x = laid(TRIANGLE, new int[] {1, -1, 1, 5});
        due("again", 8, x::overlay);
        due("and again", 8, x::overlay);
        dueSame("what it tells", everyAnswer(laid(TRIANGLE, new int[] {1, -1, 1, 5})), everyAnswer(x));
        due("polygon 0 keeps its vertices", 3, () -> x.clear(0));
        due("polygon 1 keeps its vertices", 2, () -> x.clear(1));
    }

    private static void sizeRefuses(int... wrong) {
        PlaneOverlay x = laid(SQUARE, MOVED_SQUARE);
        for (int what : wrong) {
            thrown("size(" + what + ")", ARGUMENT, () -> x.size(what));
            thrown("no edge, size(" + what + ")", ARGUMENT, () -> laid(NOTHING, NOTHING).size(what));
        }
    }

    private static void regionsCountWhatIsOutside() {
        due("no edge", 1, () -> laid(NOTHING, NOTHING).size(3));
        due("a line", 1, () -> laid(new int[] {0, 0, 3, 1}, NOTHING).size(3));
        due("two lines apart", 1, () -> laid(new int[] {0, 0, 3, 1}, new int[] {0, 2, 3, 3}).size(3));
        due("two lines that cross", 1, () -> laid(new int[] {-2, 0, 2, 0}, new int[] {0, -2, 0, 2}).size(3));
        due("two triangles apart", 3, () -> laid(TRIANGLE, new int[] {9, 9, 8, 9, 9, 8}).size(3));
        due("one in the other", 3, () -> laid(TRIANGLE, new int[] {1, 1, 2, 1, 1, 2}).size(3));
        due("one on a corner of the other", 3, () -> laid(TRIANGLE, new int[] {4, 0, 8, 0, 8, 4}).size(3));
        due("one on the other", 2, () -> laid(TRIANGLE, TRIANGLE).size(3));
        // The triangle's first edge meets the other polygon only over its neighbours.
        due("one over another's side", 4, () -> laid(new int[] {0, 0, 20, 0, 20, 9, 10, 9, 10, 1, 0, 1},
                new int[] {25, 5, 25, 6, 15, 5}).size(3));
        due("a line that cuts one in two", 3, () -> laid(TRIANGLE, new int[] {1, -1, 1, 5}).size(3));
        due("a line that does not reach through", 2, () -> laid(TRIANGLE, new int[] {1, -1, 1, 1}).size(3));
    }

    private static void pairsOfEdges() {
        due("no edge", 0, () -> laid(NOTHING, NOTHING).size(4));
        due("there and back have a line in common", 1, () -> laid(new int[] {0, 0, 3, 1}, NOTHING).size(4));
        due("neighbours", 3, () -> laid(TRIANGLE, NOTHING).size(4));
        due("lines apart: each with its way back", 2,
                () -> laid(new int[] {0, 0, 3, 1}, new int[] {0, 1, 3, 2}).size(4));
        due("lines that touch with their ends", 6,
                () -> laid(new int[] {0, 0, 3, 1}, new int[] {3, 1, 6, 2}).size(4));
        due("lines on one line, apart", 2, () -> laid(new int[] {0, 0, 1, 1}, new int[] {2, 2, 3, 3}).size(4));
        due("all twelve on one line", 66, () -> laid(new int[] {0, 0, 3, 1, 0, 0, 3, 1, 0, 0, 3, 1},
                new int[] {0, 0, 3, 1, 0, 0, 3, 1, 0, 0, 3, 1}).size(4));
    }

    private static void pointRefusesNumbers(int... wrong) {
        PlaneOverlay x = laid(SQUARE, MOVED_SQUARE);
        for (int k : wrong) {
            for (int what = 0; what < 3; what++) {
                int asks = what;
                thrown("point(" + k + ", " + what + ")", INDEX, () -> x.point(k, asks));
            }
        }
    }

    private static void pointRefusesQuestions(int... wrong) {
        PlaneOverlay x = laid(SQUARE, MOVED_SQUARE);
        for (int what : wrong) {
            thrown("point(0, " + what + ")", ARGUMENT, () -> x.point(0, what));
            thrown("point(9, " + what + ")", ARGUMENT, () -> x.point(9, what));
        }
    }

    private static void thereAreAsManyPointsAsToldOf() {
        PlaneOverlay x = laid(SQUARE, MOVED_SQUARE);
        duePoint("the first", x, 0, 0, 0, 1);
        duePoint("the last", x, 9, 6, 6, 1);
        thrown("behind the last", INDEX, () -> x.point(10, 0));
        thrown("an overlay of no edge has none", INDEX, () -> laid(new int[] {1, 1}, NOTHING).point(0, 0));
    }

    private static void divisorIsTheLeastOne() {
        duePoint("whole", laid(new int[] {6, 8, -4, 2}, NOTHING), 1, 6, 8, 1);
        duePoint("nought", laid(new int[] {-7, 0, 7, 0}, new int[] {0, -7, 0, 7}), 2, 0, 0, 1);
        duePoint("whole where edges cross", laid(new int[] {0, 0, 4, 4}, new int[] {0, 4, 4, 0}), 2, 2, 2, 1);
        duePoint("only y has a fraction", laid(new int[] {0, 0, 2, 1}, new int[] {1, -5, 1, 5}), 2, 2, 1, 2);
        duePoint("only x has a fraction", laid(new int[] {0, 0, 1, 2}, new int[] {-5, 1, 5, 1}), 2, 1, 2, 2);
        duePoint("halves and thirds", laid(new int[] {0, 0, 3, 2}, new int[] {1, 0, -2, 2}), 2, 3, 2, 6);
        duePoint("x is 0", laid(new int[] {-1, 0, 1, 1}, new int[] {0, -5, 0, 5}), 2, 0, 1, 2);
        duePoint("y is 0", laid(new int[] {0, -1, 1, 1}, new int[] {-5, 0, 5, 0}), 2, 1, 0, 2);
        duePoint("both below 0", laid(new int[] {0, 0, -3, -1}, new int[] {0, -1, -1, 0}), 2, -3, -1, 4);
        duePoint("a great one", laid(new int[] {-30, -30, 30, 29}, new int[] {30, -30, -29, 30}), 2, 3570, -30, 7081);
    }

    private static void pointsAreInOrder() {
        // (2/5,2/5) (1/2,1/3) (1/2,1/2) (3/5,2/5): x decides, and y where x is the same with another divisor.
        PlaneOverlay x = laid(new int[] {3, 2, 0, 0, 1, 1}, new int[] {-2, 2, 1, 0, 0, 1});
        due("points", 10, () -> x.size(1));
        int[][] want = {{-2, 2, 1}, {0, 0, 1}, {0, 1, 1}, {2, 2, 5}, {3, 2, 6}, {1, 1, 2}, {3, 2, 5}, {1, 0, 1},
            {1, 1, 1}, {3, 2, 1}};
        for (int k = 0; k < want.length; k++) {
            duePoint("in order", x, k, want[k]);
        }
        PlaneOverlay upright = laid(new int[] {0, 3, 0, -3}, new int[] {0, -30, 0, 30});
        int[] heights = {-30, -3, 3, 30};
        for (int k = 0; k < 4; k++) {
            duePoint("one above another", upright, k, 0, heights[k], 1);
        }
    }

    private static void everyPointIsThereOnce() {
        // Three edges of two polygons, and one that runs back, go through (1/2, 1/2).
        PlaneOverlay x = laid(new int[] {0, 0, 1, 1}, new int[] {0, 1, 1, 0, 2, 0, -1, 1});
        dueSizes("three through one point", x, 6, 7, 8, 3, 10);
        duePoint("the point", x, 3, 1, 1, 2);
        due("the same polygon twice", 4, () -> laid(SQUARE, SQUARE).size(1));
        due("an end in the middle of an edge", 3, () -> laid(new int[] {0, 0, 4, 0}, new int[] {2, 0, 0, 0}).size(1));
    }

    private static void linesInCommonAddNoPointButTheirEnds() {
        PlaneOverlay x = laid(new int[] {0, 0, 4, 0}, new int[] {1, 0, 7, 0});
        dueSizes("ends alone", x, 4, 4, 3, 1, 6);
        duePoint("where the line begins", x, 1, 1, 0, 1);
        duePoint("where it ends", x, 2, 4, 0, 1);
    }

    private static void pieceRefusesNumbers(int... wrong) {
        PlaneOverlay x = laid(SQUARE, MOVED_SQUARE);
        for (int k : wrong) {
            for (int what = 0; what < 8; what++) {
                int asks = what;
                thrown("piece(" + k + ", " + what + ")", INDEX, () -> x.piece(k, asks));
            }
        }
    }

    private static void pieceRefusesQuestions(int... wrong) {
        PlaneOverlay x = laid(SQUARE, MOVED_SQUARE);
        for (int what : wrong) {
            thrown("piece(0, " + what + ")", ARGUMENT, () -> x.piece(0, what));
            thrown("piece(11, " + what + ")", ARGUMENT, () -> x.piece(11, what));
        }
    }

    private static void thereAreAsManyPiecesAsToldOf() {
        PlaneOverlay x = laid(SQUARE, MOVED_SQUARE);
        duePiece("the first", x, 0, 0, 1, 1, 0, 0, 0, 1, 0);
        duePiece("the last", x, 11, 8, 9, 0, 1, 0, 1, 0, 0);
        thrown("behind the last", INDEX, () -> x.piece(12, 0));
        thrown("an overlay of no edge has none", INDEX, () -> laid(new int[] {1, 1}, NOTHING).piece(0, 0));
    }

    private static void edgesAreCutAtAllPointsOnThem() {
        due("an edge that nothing meets is one piece", 1, () -> laid(new int[] {0, 0, 30, 30}, NOTHING).size(2));
        // The end of one edge lies on another one, and does not go through it.
        PlaneOverlay end = laid(new int[] {0, 0, 4, 0}, new int[] {2, 0, 2, 3});
        due("an end on an edge", 3, () -> end.size(2));
        duePiece("before the end", end, 0, 0, 1, 2, 0, 0, 0, 0, 0);
        duePiece("behind the end", end, 2, 1, 3, 2, 0, 0, 0, 0, 0);
        due("an end on an end", 2, () -> laid(new int[] {0, 0, 4, 0}, new int[] {4, 0, 4, 3}).size(2));
        due("a cross", 4, () -> laid(new int[] {-2, 0, 2, 0}, new int[] {0, -2, 0, 2}).size(2));
    }

    private static void piecesThatAreTheSameAreOne() {
        int[] thrice = {0, 0, 3, 1, 0, 0, 3, 1, 0, 0, 3, 1};
        PlaneOverlay all = laid(thrice, thrice);
        dueSizes("twelve edges in one place", all, 12, 2, 1, 1, 66);
        duePiece("twelve edges in one place", all, 0, 0, 1, 6, 6, 0, 0, 0, 0);
        duePiece("six of polygon 1 alone", laid(NOTHING, thrice), 0, 0, 1, 0, 6, 0, 0, 0, 0);
        PlaneOverlay part = laid(new int[] {0, 0, 4, 0}, new int[] {1, 0, 7, 0});
        duePiece("0 alone", part, 0, 0, 1, 2, 0, 0, 0, 0, 0);
        duePiece("both", part, 1, 1, 2, 2, 2, 0, 0, 0, 0);
        duePiece("1 alone", part, 2, 2, 3, 0, 2, 0, 0, 0, 0);
    }

    private static void piecesAreNumberedByFirstThenLastPoints() {
        // Points: (0,0) (2,-4) (2,0) (2,4) (5,0): from (0,0) to all the others but the last.
        PlaneOverlay x = laid(new int[] {0, 0, 2, 4, 5, 0, 2, -4}, new int[] {0, 0, 2, 0});
        int[][] want = {{0, 1}, {0, 2}, {0, 3}, {1, 4}, {3, 4}};
        due("pieces", want.length, () -> x.size(2));
        for (int k = 0; k < want.length; k++) {
            int asks = k;
            due("first of " + k, want[k][0], () -> x.piece(asks, 0));
            due("last of " + k, want[k][1], () -> x.piece(asks, 1));
        }
    }

    private static void edgesInOnePlaceCountEach() {
        // The bottom of the square is walked there, back and there again.
        PlaneOverlay odd = laid(new int[] {0, 0, 4, 0, 0, 0, 4, 0, 4, 4, 0, 4}, NOTHING);
        dueSizes("three in one place", odd, 6, 4, 4, 2, 11);
        duePiece("three in one place", odd, 1, 0, 2, 3, 0, 1, 0, 0, 0);
        due("above them is inside", 1, () -> odd.where(0, 2, 2, 1));
        due("below them is outside", 0, () -> odd.where(0, 2, -1, 1));
        // A triangle walked twice has no inside.
        PlaneOverlay even = laid(new int[] {0, 0, 4, 0, 0, 4, 0, 0, 4, 0, 0, 4}, NOTHING);
        duePiece("two in one place", even, 1, 0, 2, 2, 0, 0, 0, 0, 0);
        due("nothing is inside", 0, () -> even.where(0, 1, 1, 1));
        // A way into the triangle and back: both its sides are inside.
        PlaneOverlay way = laid(new int[] {0, 0, 8, 0, 0, 8, 0, 4, 2, 4, 0, 4}, NOTHING);
        dueSizes("a way in and back", way, 6, 5, 5, 2, 9);
        duePiece("a way in and back", way, 3, 1, 3, 2, 0, 1, 0, 1, 0);
    }

    private static void sidesOfUprightAndFlatPieces() {
        PlaneOverlay x = laid(SQUARE, NOTHING);
        duePiece("upright, the inside to its right", x, 0, 0, 1, 1, 0, 0, 0, 1, 0);
        duePiece("flat, the inside to its left", x, 1, 0, 2, 1, 0, 1, 0, 0, 0);
        duePiece("flat, the inside to its right", x, 2, 1, 3, 1, 0, 0, 0, 1, 0);
        duePiece("upright, the inside to its left", x, 3, 2, 3, 1, 0, 1, 0, 0, 0);
        PlaneOverlay turned = laid(NOTHING, new int[] {0, 0, 0, 4, 4, 4, 4, 0});
        duePiece("the way round does not matter", turned, 0, 0, 1, 0, 1, 0, 0, 0, 1);
        duePiece("nor for the last one", turned, 3, 2, 3, 0, 1, 0, 1, 0, 0);
    }

    private static void rayGoesThroughNoVertex() {
        // Pieces of polygon 1 whose middle lies below, above, left or right of two corners of polygon 0.
        int[] diamond = {2, 2, 4, 4, 2, 6, 0, 4};
        int[][] outside = {{0, 0, 4, 0}, {0, 8, 4, 8}, {-2, 3, -2, 5}, {6, 3, 6, 5}, {2, -1, 2, 1}, {2, 7, 2, 9},
            {-3, 4, -1, 4}, {5, 4, 7, 4}};
        for (int[] line : outside) {
            dueSides("outside", laid(diamond, line), 0);
        }
        dueSides("flat, in its middle", laid(diamond, new int[] {1, 4, 3, 4}), 1);
        dueSides("upright, in its middle", laid(diamond, new int[] {2, 3, 2, 5}), 1);
        // The middle lies in line with the upright and the flat sides of the square.
        dueSides("below a side", laid(SQUARE, new int[] {-1, -2, 1, -2}), 0);
        dueSides("left of a side", laid(SQUARE, new int[] {-2, -1, -2, 1}), 0);
        dueSides("right of a side", laid(SQUARE, new int[] {6, 3, 6, 5}), 0);
        dueSides("below the other side", laid(SQUARE, new int[] {3, -2, 5, -2}), 0);
    }

    /** Whether both sides of the one piece on which the edges of polygon 1 lie are inside polygon 0. */
    private static void dueSides(String what, PlaneOverlay x, int inside) {
        int found = 0;
        for (int k = 0; k < x.size(2); k++) {
            int piece = k;
            if (x.piece(k, 3) == 2) {
                found++;
                due(what + ", left", inside, () -> x.piece(piece, 4));
                due(what + ", right", inside, () -> x.piece(piece, 6));
            }
        }
        int pieces = found;
        due(what + ", pieces of polygon 1", 1, () -> pieces);
    }

    private static void piecesBetweenFractionsAreExact() {
        PlaneOverlay x = laid(FAR, OTHER_FAR);
        dueSizes("far", x, 6, 10, 14, 6, 10);
        duePoint("far left", x, 3, -100920, -100861, 3598);
        duePoint("far right", x, 6, 107910, -104370, 3599);
        duePiece("between them", x, 6, 3, 6, 1, 0, 0, 1, 1, 1);
    }

    private static void testPromises4And5() {
        test("4: How many pieces it has, with no edge.", PieceBoundaryTest::overlayOfNoEdgeHasNoPiece);
        test("4: Makes the overlay, with no edge.", PieceBoundaryTest::overlayOfNoEdgeIsAnOverlay);
        test("4: How many pieces, of full polygons.", PieceBoundaryTest::overlayOfFullPolygonsHasAllTheirPieces);
        test("Terms: Stays as it is, whatever becomes of the polygons.",
                PieceBoundaryTest::overlayStaysWhateverBecomesOfThePolygons);
        test("Terms: Until the next one is made.", PieceBoundaryTest::nextOverlayLeavesNothingOfTheOneBefore);
        test("4: Makes the overlay, again.", PieceBoundaryTest::overlayMadeAgainIsTheSame);
        test("5: What is none of these: too small.", () -> sizeRefuses(-1, -2, LEAST));
        test("5: What is none of these: too large.", () -> sizeRefuses(5, 6, MOST));
        test("Terms: Regions, with what is outside of everything.", PieceBoundaryTest::regionsCountWhatIsOutside);
        test("5: Pairs of edges that have a point in common.", PieceBoundaryTest::pairsOfEdges);
    }

    private static void testPromise6() {
        test("6: There is no such point: too small.", () -> pointRefusesNumbers(-1, -2, LEAST));
        test("6: There is no such point: too large.", () -> pointRefusesNumbers(10, 11, 77, 78, MOST));
        test("6: What is none of these: too small.", () -> pointRefusesQuestions(-1, -2, LEAST));
        test("6: What is none of these: too large.", () -> pointRefusesQuestions(3, 4, MOST));
        test("6: Of point k: the first and the last.", PieceBoundaryTest::thereAreAsManyPointsAsToldOf);
        test("6: The least d above 0.", PieceBoundaryTest::divisorIsTheLeastOne);
        test("Terms: With the same x that with the lesser y.", PieceBoundaryTest::pointsAreInOrder);
        test("Terms: Points, each once.", PieceBoundaryTest::everyPointIsThereOnce);
        test("Terms: In common when they have just one.", PieceBoundaryTest::linesInCommonAddNoPointButTheirEnds);
    }

    private static void testPromise7() {
        test("7: There is no such piece: too small.", () -> pieceRefusesNumbers(-1, -2, LEAST));
        test("7: There is no such piece: too large.", () -> pieceRefusesNumbers(12, 13, 275, 276, MOST));
        test("7: What is none of these: too small.", () -> pieceRefusesQuestions(-1, -2, LEAST));
        test("7: What is none of these: too large.", () -> pieceRefusesQuestions(8, 9, MOST));
        test("7: Of piece k: the first and the last.", PieceBoundaryTest::thereAreAsManyPiecesAsToldOf);
        test("Terms: Every edge is cut at all points that lie on it.",
                PieceBoundaryTest::edgesAreCutAtAllPointsOnThem);
        test("Terms: Pieces that are the same are one.", PieceBoundaryTest::piecesThatAreTheSameAreOne);
        test("Terms: Where these are the same by their last points.",
                PieceBoundaryTest::piecesAreNumberedByFirstThenLastPoints);
        test("Terms: Each edge counts, also where edges lie on one another.",
                PieceBoundaryTest::edgesInOnePlaceCountEach);
        test("Terms: Looking from the first to the last point.", PieceBoundaryTest::sidesOfUprightAndFlatPieces);
        test("Terms: A ray which goes through no vertex.", PieceBoundaryTest::rayGoesThroughNoVertex);
        test("Finds all points in which edges meet, exactly.", PieceBoundaryTest::piecesBetweenFractionsAreExact);
    }

    public static void main(String[] args) {
        testPromises4And5();
        testPromise6();
        testPromise7();
        end();
    }
}
