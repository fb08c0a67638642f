import java.lang.reflect.Constructor;
import java.lang.reflect.Method;
import java.lang.reflect.Modifier;
import java.util.Arrays;
import java.util.TreeSet;

/** Answers worked out by hand, promise by promise. */
public final class PlaneOverlayTest extends OverlayTest {
    private static void testFace() {
        String[] due = {
            "int vertex(int,int,int) IllegalArgumentException IllegalStateException",
            "int clear(int) IllegalArgumentException",
            "int overlay()",
            "int size(int) IllegalStateException IllegalArgumentException",
            "int point(int,int) IllegalStateException IndexOutOfBoundsException IllegalArgumentException",
            "int piece(int,int) IllegalStateException IndexOutOfBoundsException IllegalArgumentException",
            "int common(int,int) IllegalStateException IndexOutOfBoundsException",
            "int shared(int,int,boolean) IllegalStateException IndexOutOfBoundsException NoSuchElementException",
            "int bounds(int) IllegalStateException IllegalArgumentException",
            "int bound(int,int) IllegalStateException IllegalArgumentException NoSuchElementException",
            "int where(int,int,int,int) IllegalStateException IllegalArgumentException",
            "double area(int) IllegalStateException IllegalArgumentException",
        };
        TreeSet<String> found = new TreeSet<>();
        for (Method method : PlaneOverlay.class.getDeclaredMethods()) {
            if (!Modifier.isPrivate(method.getModifiers())) {
                found.add(faceOf(method));
            }
        }
        due("the face is the document's", 1, () -> found.equals(new TreeSet<>(Arrays.asList(due))) ? 1 : 0);
        Constructor<?>[] made = PlaneOverlay.class.getDeclaredConstructors();
        due("one constructor", 1, () -> made.length);
        due("public, without arguments", 1,
                () -> Modifier.isPublic(made[0].getModifiers()) && made[0].getParameterCount() == 0 ? 1 : 0);
        due("class is final", 1, () -> Modifier.isFinal(PlaneOverlay.class.getModifiers()) ? 1 : 0);
    }

    private static String faceOf(Method method) {
        StringBuilder face = new StringBuilder();
        face.append(method.getReturnType().getName()).append(' ').append(method.getName()).append('(');
        String comma = "";
        for (Class<?> type : method.getParameterTypes()) {
            face.append(comma).append(type.getName());
            comma = ",";
        }
        face.append(')');
        for (Class<?> type : method.getExceptionTypes()) {
            face.append(' ').append(type.getSimpleName());
        }
        return face.toString();
    }

    private static void testPromise1() {
        PlaneOverlay x = new PlaneOverlay();
        thrown("new size", STATE, () -> x.size(0));
        thrown("new size, wrong too", STATE, () -> x.size(9));
        thrown("new point", STATE, () -> x.point(0, 0));
        thrown("new point, wrong too", STATE, () -> x.point(-1, 9));
        thrown("new piece", STATE, () -> x.piece(0, 0));
        thrown("new piece, wrong too", STATE, () -> x.piece(-1, 9));
        thrown("new common", STATE, () -> x.common(0, 0));
        thrown("new shared", STATE, () -> x.shared(0, 0, false));
        thrown("new bounds", STATE, () -> x.bounds(0));
        thrown("new bounds, wrong too", STATE, () -> x.bounds(9));
        thrown("new bound", STATE, () -> x.bound(0, 0));
        thrown("new bound, wrong too", STATE, () -> x.bound(9, 0));
        thrown("new where", STATE, () -> x.where(0, 0, 0, 1));
        thrown("new where, wrong too", STATE, () -> x.where(2, 0, 0, 0));
        thrown("new area", STATE, () -> x.area(0));
        thrown("new area, wrong too", STATE, () -> x.area(4));
        due("new clear 0", 0, () -> x.clear(0));
        due("new clear 1", 0, () -> x.clear(1));
        thrown("still no overlay", STATE, () -> x.size(0));
    }

    private static void testPromise2() {
        PlaneOverlay x = new PlaneOverlay();
        for (int n = 1; n <= 6; n++) {
            int side = n % 2 == 0 ? 30 : -30;
            due("vertex " + n, n, () -> x.vertex(0, side, -side));
        }
        thrown("7th vertex", STATE, () -> x.vertex(0, 0, 0));
        thrown("7th vertex, x wrong", ARGUMENT, () -> x.vertex(0, 31, 0));
        thrown("7th vertex, y wrong", ARGUMENT, () -> x.vertex(0, 0, -31));
        due("the other polygon counts for itself", 1, () -> x.vertex(1, 0, 0));
        due("the same vertex again", 2, () -> x.vertex(1, 0, 0));
        int[][] bad = {{-1, 0, 0}, {2, 0, 0}, {LEAST, 0, 0}, {MOST, 0, 0}, {1, 31, 0}, {1, -31, 0}, {1, 0, 31},
            {1, 0, -31}, {1, LEAST, 0}, {1, 0, LEAST}, {1, MOST, 0}, {1, 0, MOST}};
        for (int[] b : bad) {
            thrown("vertex" + Arrays.toString(b), ARGUMENT, () -> x.vertex(b[0], b[1], b[2]));
        }
        due("what threw changed nothing in 0", 6, () -> x.clear(0));
        due("what threw changed nothing in 1", 2, () -> x.clear(1));
        due("vertex makes no overlay", 1, () -> x.vertex(0, 1, 1));
        thrown("no overlay yet", STATE, () -> x.size(0));
    }

    private static void testPromise3() {
        PlaneOverlay x = new PlaneOverlay();
        put(x, 0, SQUARE);
        put(x, 1, MOVED_SQUARE);
        x.vertex(1, 3, 7);
        thrown("clear -1", ARGUMENT, () -> x.clear(-1));
        thrown("clear 2", ARGUMENT, () -> x.clear(2));
        thrown("clear least", ARGUMENT, () -> x.clear(LEAST));
        thrown("clear most", ARGUMENT, () -> x.clear(MOST));
        due("clear 0", 4, () -> x.clear(0));
        due("clear 0 again", 0, () -> x.clear(0));
        due("clear 1", 5, () -> x.clear(1));
        due("vertex after clear", 1, () -> x.vertex(0, 9, 9));
        due("nothing is left of the old vertices", 0, x::overlay);
    }

    private static void testPromise4() {
        PlaneOverlay x = new PlaneOverlay();
        due("overlay of nothing", 0, x::overlay);
        due("first vertex", 1, () -> x.vertex(0, 0, 0));
        due("overlay of one vertex", 0, x::overlay);
        due("the same vertex", 2, () -> x.vertex(0, 0, 0));
        due("overlay of two vertices in one place", 0, x::overlay);
        due("another vertex", 3, () -> x.vertex(0, 3, 1));
        due("overlay of a line there and back", 1, x::overlay);
        dueSizes("there and back", x, 2, 2, 1, 1, 1);
        duePiece("there and back", x, 0, 0, 1, 2, 0, 0, 0, 0, 0);
        x.clear(0);
        put(x, 0, SQUARE);
        put(x, 1, MOVED_SQUARE);
        dueSizes("an overlay stays as it is", x, 2, 2, 1, 1, 1);
        due("overlay of two squares", 12, x::overlay);
        x.clear(0);
        x.vertex(1, 1, 4);
        dueSizes("after changes", x, 8, 10, 12, 4, 10);
        due("where after changes", 1, () -> x.where(0, 1, 1, 1));
        dueAreas("after changes", x, 56, 8, 24, 48);
        thrown("wrong question", ARGUMENT, () -> x.size(5));
        dueSizes("after what threw", x, 8, 10, 12, 4, 10);
        due("overlay of what there is now", 5, x::overlay);
        dueSizes("next overlay", x, 5, 5, 5, 2, 5);
    }

    private static void testPromise5() {
        dueSizes("nothing", laid(NOTHING, NOTHING), 0, 0, 0, 1, 0);
        dueSizes("a square", laid(SQUARE, NOTHING), 4, 4, 4, 2, 4);
        dueSizes("polygon 1 alone", laid(NOTHING, SQUARE), 4, 4, 4, 2, 4);
        dueSizes("the same square twice", laid(SQUARE, SQUARE), 8, 4, 4, 2, 20);
        dueSizes("a hole", laid(new int[] {0, 0, 9, 0, 0, 9}, new int[] {1, 1, 2, 1, 1, 2}), 6, 6, 6, 3, 6);
        dueSizes("corner on corner", laid(SQUARE, new int[] {4, 4, 8, 4, 8, 8}), 7, 6, 7, 3, 11);
        dueSizes("a cross of two lines", laid(new int[] {-2, 0, 2, 0}, new int[] {0, -2, 0, 2}), 4, 5, 4, 1, 6);
        dueSizes("two lines apart", laid(new int[] {-2, 0, 2, 0}, new int[] {-2, 1, 2, 1}), 4, 4, 2, 1, 2);
        // The first edge of polygon 1 meets polygon 0 only over its neighbours: still one part.
        int[] chain = {0, 0, 20, 0, 20, 9, 10, 9, 10, 1, 0, 1};
        dueSizes("a chain", laid(chain, new int[] {25, 5, 25, 6, 15, 5}), 9, 11, 13, 4, 11);
        // The star's five edges: neighbours share a corner, all other pairs cross: 10 pairs, 5 + 5 points.
        int[] star = {0, 10, 6, -8, -10, 3, 10, 3, -6, -8};
        dueSizes("a star", laid(star, NOTHING), 5, 10, 15, 7, 10);
        PlaneOverlay x = laid(SQUARE, MOVED_SQUARE);
        dueSizes("two squares", x, 8, 10, 12, 4, 10);
        for (int what : new int[] {-1, 5, LEAST, MOST}) {
            thrown("size(" + what + ")", ARGUMENT, () -> x.size(what));
        }
    }

    private static void testPromise6() {
        PlaneOverlay x = laid(SQUARE, MOVED_SQUARE);
        int[][] want = {{0, 0, 1}, {0, 4, 1}, {2, 2, 1}, {2, 4, 1}, {2, 6, 1}, {4, 0, 1}, {4, 2, 1}, {4, 4, 1},
            {6, 2, 1}, {6, 6, 1}};
        for (int k = 0; k < want.length; k++) {
            duePoint("squares", x, k, want[k]);
        }
        // y = x / 3 and y = 1 - x meet in (3/4, 1/4).
        duePoint("a fraction", laid(new int[] {0, 0, 3, 1}, new int[] {0, 1, 1, 0}), 2, 3, 1, 4);
        // The same below zero: (-3/4, -1/4).
        duePoint("below zero", laid(new int[] {0, 0, -3, -1}, new int[] {0, -1, -1, 0}), 2, -3, -1, 4);
        // Only one coordinate has a fraction: (1, 1/2), and (1/2, 1).
        duePoint("y alone", laid(new int[] {0, 0, 2, 1}, new int[] {1, -5, 1, 5}), 2, 2, 1, 2);
        duePoint("x alone", laid(new int[] {0, 0, 1, 2}, new int[] {-5, 1, 5, 1}), 2, 1, 2, 2);
        // (1/2, 1/3): neither denominator is enough for both.
        duePoint("both", laid(new int[] {0, 0, 3, 2}, new int[] {1, 0, -2, 2}), 2, 3, 2, 6);
        duePoint("the origin", laid(new int[] {-7, 0, 7, 0}, new int[] {0, -7, 0, 7}), 2, 0, 0, 1);
        // x + y = -1 and 59 x - 60 y = 30 meet in (-30/119, -89/119).
        duePoint("large", laid(new int[] {-30, -30, 30, 29}, new int[] {-30, 29, 29, -30}), 2, -30, -89, 119);
        for (int what : new int[] {-1, 3, LEAST, MOST}) {
            thrown("point(0, " + what + ")", ARGUMENT, () -> x.point(0, what));
        }
        for (int k : new int[] {-1, 10, LEAST, MOST}) {
            thrown("point(" + k + ", 0)", INDEX, () -> x.point(k, 0));
            thrown("point(" + k + ", 3)", INDEX, () -> x.point(k, 3));
        }
        thrown("no points", INDEX, () -> laid(NOTHING, NOTHING).point(0, 0));
        PlaneOverlay lines = laid(new int[] {0, 0, 4, 0}, new int[] {1, 0, 2, 0});
        due("ends on a line are points", 4, () -> lines.size(1));
        duePoint("in order", lines, 1, 1, 0, 1);
    }

    private static void testPromise7() {
        PlaneOverlay x = laid(SQUARE, MOVED_SQUARE);
        int[][] want = {
            {0, 1, 1, 0, 0, 0, 1, 0}, {0, 5, 1, 0, 1, 0, 0, 0}, {1, 3, 1, 0, 0, 0, 1, 0}, {2, 3, 0, 1, 1, 0, 1, 1},
            {2, 6, 0, 1, 1, 1, 1, 0}, {3, 4, 0, 1, 0, 0, 0, 1}, {3, 7, 1, 0, 0, 1, 1, 1}, {4, 9, 0, 1, 0, 0, 0, 1},
            {5, 6, 1, 0, 1, 0, 0, 0}, {6, 7, 1, 0, 1, 1, 0, 1}, {6, 8, 0, 1, 0, 1, 0, 0}, {8, 9, 0, 1, 0, 1, 0, 0}};
        for (int k = 0; k < want.length; k++) {
            duePiece("squares", x, k, want[k]);
        }
        for (int what : new int[] {-1, 8, LEAST, MOST}) {
            thrown("piece(0, " + what + ")", ARGUMENT, () -> x.piece(0, what));
        }
        for (int k : new int[] {-1, 12, LEAST, MOST}) {
            thrown("piece(" + k + ", 0)", INDEX, () -> x.piece(k, 0));
            thrown("piece(" + k + ", 8)", INDEX, () -> x.piece(k, 8));
        }
        testPiecesOfManyEdges();
    }

    private static void testPiecesOfManyEdges() {
        // Squares that lie against one another, with an edge in common.
        PlaneOverlay beside = laid(SQUARE, new int[] {4, 1, 8, 1, 8, 3, 4, 3});
        due("beside pieces", 9, () -> beside.size(2));
        // Points: (0,0) (0,4) (4,0) (4,1) (4,3) (4,4) (8,1) (8,3).
        duePiece("beside, 0 alone", beside, 3, 2, 3, 1, 0, 1, 0, 0, 0);
        duePiece("beside, both", beside, 4, 3, 4, 1, 1, 1, 0, 0, 1);
        // A spike that runs there and back: two edges of polygon 0 lie on it, so it divides nothing.
        PlaneOverlay spike = laid(new int[] {0, 0, 4, 0, 4, 4, 2, 4, 2, 8, 2, 4}, NOTHING);
        // Points: (0,0) (2,4) (2,8) (4,0) (4,4).
        duePiece("spike", spike, 2, 1, 2, 2, 0, 0, 0, 0, 0);
        duePiece("below the spike", spike, 3, 1, 4, 1, 0, 0, 0, 1, 0);
        // A triangle walked twice: every piece has two edges, and nothing is inside.
        PlaneOverlay twice = laid(new int[] {0, 0, 3, 0, 0, 3, 0, 0, 3, 0, 0, 3}, NOTHING);
        dueSizes("twice", twice, 6, 3, 3, 2, 15);
        duePiece("twice", twice, 0, 0, 1, 2, 0, 0, 0, 0, 0);
        dueBounds("twice", twice, 0);
        due("twice where", 0, () -> twice.where(0, 1, 1, 1));
        // There and back and there again, between three vertices on a line.
        PlaneOverlay line = laid(new int[] {0, 0, 2, 2, 4, 4}, new int[] {1, 1, 3, 3});
        dueSizes("line", line, 5, 5, 4, 1, 10);
        duePiece("line", line, 0, 0, 1, 2, 0, 0, 0, 0, 0);
        duePiece("line", line, 1, 1, 2, 2, 2, 0, 0, 0, 0);
        // The middle of the star lies behind two edges: outside.
        PlaneOverlay star = laid(new int[] {0, 10, 6, -8, -10, 3, 10, 3, -6, -8}, NOTHING);
        due("star middle", 0, () -> star.where(0, 0, 0, 1));
        due("star tip", 1, () -> star.where(0, 0, 9, 1));
    }

    private static void testPromise8() {
        PlaneOverlay x = laid(SQUARE, MOVED_SQUARE);
        due("neighbours", 1, () -> x.common(0, 1));
        due("last and first", 1, () -> x.common(3, 0));
        due("opposite", 0, () -> x.common(0, 2));
        due("the same", 0, () -> x.common(5, 5));
        due("crossing", 1, () -> x.common(1, 4));
        due("crossing, the other way", 1, () -> x.common(4, 1));
        due("apart", 0, () -> x.common(0, 4));
        due("on one line, apart", 0, () -> laid(new int[] {0, 0, 1, 1}, new int[] {2, 2, 3, 3}).common(0, 2));
        due("on one line, touching", 1, () -> laid(new int[] {0, 0, 2, 2}, new int[] {2, 2, 3, 3}).common(0, 2));
        due("on one line, over", 2, () -> laid(new int[] {0, 0, 2, 2}, new int[] {1, 1, 3, 3}).common(0, 2));
        due("one in the other", 2, () -> laid(new int[] {0, 0, 4, 4}, new int[] {1, 1, 3, 3}).common(2, 1));
        due("there and back", 2, () -> laid(new int[] {0, 0, 4, 4}, NOTHING).common(0, 1));
        due("an end on an edge", 1, () -> laid(new int[] {0, 0, 4, 0}, new int[] {1, 0, 1, 5}).common(0, 2));
        due("just short of it", 0, () -> laid(new int[] {0, 0, 4, 0}, new int[] {1, 1, 1, 5}).common(0, 2));
        int[][] bad = {{-1, 0}, {0, -1}, {8, 0}, {0, 8}, {8, 8}, {-1, -1}, {LEAST, MOST}, {MOST, LEAST}};
        for (int[] b : bad) {
            thrown("common" + Arrays.toString(b), INDEX, () -> x.common(b[0], b[1]));
            thrown("shared" + Arrays.toString(b), INDEX, () -> x.shared(b[0], b[1], true));
        }
        // Edges are counted without those between vertices in one place.
        PlaneOverlay doubled = laid(new int[] {0, 0, 0, 0, 4, 0, 4, 0, 0, 4, 0, 0}, new int[] {1, 1, 5, 5});
        due("no edge of no length", 5, () -> doubled.size(0));
        due("the third edge crosses", 1, () -> doubled.common(1, 3));
        due("the second edge is below", 0, () -> doubled.common(0, 3));
    }

    private static void testPromise9() {
        PlaneOverlay x = laid(SQUARE, MOVED_SQUARE);
        for (boolean last : new boolean[] {false, true}) {
            due("neighbours", 5, () -> x.shared(0, 1, last));
            due("last and first", 0, () -> x.shared(0, 3, last));
            due("crossing", 6, () -> x.shared(1, 4, last));
            due("crossing, the other way", 6, () -> x.shared(4, 1, last));
            thrown("the same", ELEMENT, () -> x.shared(2, 2, last));
            thrown("opposite", ELEMENT, () -> x.shared(0, 2, last));
        }
        PlaneOverlay over = laid(new int[] {2, 2, 0, 0}, new int[] {3, 3, 1, 1});
        due("first of a line", 1, () -> over.shared(0, 2, false));
        due("last of a line", 2, () -> over.shared(0, 2, true));
        due("first of there and back", 0, () -> over.shared(0, 1, false));
        due("last of there and back", 2, () -> over.shared(0, 1, true));
        PlaneOverlay upright = laid(new int[] {0, 5, 0, -5}, new int[] {0, 3, 0, 9, -4, 1});
        // Points: (-4,1) (0,-5) (0,3) (0,5) (0,9).
        due("first, upright", 2, () -> upright.shared(0, 2, false));
        due("last, upright", 3, () -> upright.shared(0, 2, true));
        thrown("no edges", INDEX, () -> laid(NOTHING, NOTHING).shared(0, 0, false));
    }

    private static void testPromises10And11() {
        PlaneOverlay x = laid(SQUARE, MOVED_SQUARE);
        dueBounds("union", x, 0, 0, 1, 2, 5, 7, 8, 10, 11);
        dueBounds("intersection", x, 1, 3, 4, 6, 9);
        dueBounds("difference", x, 2, 0, 1, 2, 3, 4, 8);
        dueBounds("just one", x, 3, 0, 1, 2, 3, 4, 5, 6, 7, 8, 9, 10, 11);
        for (int result : new int[] {-1, 4, LEAST, MOST}) {
            thrown("bounds(" + result + ")", ARGUMENT, () -> x.bounds(result));
            thrown("bound(" + result + ", 0)", ARGUMENT, () -> x.bound(result, 0));
            thrown("bound(" + result + ", -1)", ARGUMENT, () -> x.bound(result, -1));
            thrown("area(" + result + ")", ARGUMENT, () -> x.area(result));
        }
        PlaneOverlay same = laid(SQUARE, SQUARE);
        dueBounds("same, union", same, 0, 0, 1, 2, 3);
        dueBounds("same, intersection", same, 1, 0, 1, 2, 3);
        dueBounds("same, difference", same, 2);
        dueBounds("same, just one", same, 3);
        PlaneOverlay beside = laid(SQUARE, new int[] {4, 1, 8, 1, 8, 3, 4, 3});
        dueBounds("beside, union: not the piece between", beside, 0, 0, 1, 2, 3, 5, 6, 7, 8);
        dueBounds("beside, intersection", beside, 1);
        dueBounds("beside, difference", beside, 2, 0, 1, 2, 3, 4, 6);
        dueBounds("beside, just one", beside, 3, 0, 1, 2, 3, 5, 6, 7, 8);
        dueBounds("nothing", laid(NOTHING, NOTHING), 0);
    }

    private static void testPromise12() {
        PlaneOverlay x = laid(SQUARE, MOVED_SQUARE);
        due("inside 0", 1, () -> x.where(0, 1, 1, 1));
        due("outside 1", 0, () -> x.where(1, 1, 1, 1));
        due("inside both, 0", 1, () -> x.where(0, 3, 3, 1));
        due("inside both, 1", 1, () -> x.where(1, 3, 3, 1));
        due("on an edge of 0", 2, () -> x.where(0, 4, 3, 1));
        due("on no edge of 1", 1, () -> x.where(1, 4, 3, 1));
        due("on a vertex", 2, () -> x.where(0, 4, 4, 1));
        due("on a point of both", 2, () -> x.where(1, 8, 16, 4));
        due("just inside", 1, () -> x.where(0, 3999, 3999, 1000));
        due("just outside", 0, () -> x.where(0, 4001, 3999, 1000));
        due("on the line, behind the edge", 0, () -> x.where(0, 5, 4, 1));
        due("on the line, before the edge", 0, () -> x.where(0, -1, 0, 1));
        due("above on an upright line", 0, () -> x.where(0, 4, 5, 1));
        due("below on an upright line", 0, () -> x.where(0, 0, -1, 1));
        due("below a vertex", 0, () -> x.where(1, 2, 1, 1));
        for (int far : new int[] {-100000, 100000}) {
            due("far x", 0, () -> x.where(0, far, 1, 1));
            due("far y", 0, () -> x.where(1, 1, far, 1));
        }
        due("great divisor", 2, () -> x.where(0, 0, 1, 1000));
        int[][] bad = {{-1, 0, 0, 1}, {2, 0, 0, 1}, {0, 100001, 0, 1}, {0, -100001, 0, 1}, {0, 0, 100001, 1},
            {0, 0, -100001, 1}, {0, 0, 0, 0}, {0, 0, 0, 1001}, {0, 0, 0, -1}, {LEAST, 0, 0, 1}, {MOST, 0, 0, 1},
            {1, LEAST, 0, 1}, {1, 0, LEAST, 1}, {1, MOST, 0, 1}, {1, 0, MOST, 1}, {1, 0, 0, LEAST}, {1, 0, 0, MOST}};
        for (int[] b : bad) {
            thrown("where" + Arrays.toString(b), ARGUMENT, () -> x.where(b[0], b[1], b[2], b[3]));
        }
        // Rays through corners: a diamond, asked in line with its corners.
        PlaneOverlay diamond = laid(new int[] {0, -3, 3, 0, 0, 3, -3, 0}, NOTHING);
        due("below the diamond", 0, () -> diamond.where(0, 0, -4, 1));
        due("above the diamond", 0, () -> diamond.where(0, 0, 4, 1));
        due("left of the diamond", 0, () -> diamond.where(0, -4, 0, 1));
        due("right of the diamond", 0, () -> diamond.where(0, 4, 0, 1));
        due("in line with its corners", 0, () -> diamond.where(0, -3, -3, 1));
        due("in line with its right corner", 0, () -> diamond.where(0, 3, -3, 1));
        due("its middle", 1, () -> diamond.where(0, 0, 0, 7));
        due("no edges, no inside", 0, () -> diamond.where(1, 0, 0, 1));
        due("a vertex alone is no edge", 0, () -> laid(new int[] {1, 1}, NOTHING).where(0, 1, 1, 1));
        due("on a line there and back", 2, () -> laid(new int[] {0, 0, 3, 1}, NOTHING).where(0, 999, 333, 900));
    }

    private static void testPromise13() {
        dueAreas("squares", laid(SQUARE, MOVED_SQUARE), 56, 8, 24, 48);
        dueAreas("the other way round", laid(MOVED_SQUARE, SQUARE), 56, 8, 24, 48);
        dueAreas("walked the other way", laid(new int[] {0, 0, 0, 4, 4, 4, 4, 0}, MOVED_SQUARE), 56, 8, 24, 48);
        dueAreas("nothing", laid(NOTHING, NOTHING), 0.0, 0.0, 0.0, 0.0);
        dueAreas("same", laid(SQUARE, SQUARE), 32, 32, 0.0, 0.0);
        dueAreas("hole", laid(new int[] {0, 0, 9, 0, 0, 9}, new int[] {1, 1, 3, 1, 1, 3}), 81, 4, 77, 77);
        dueAreas("lines", laid(new int[] {0, 0, 3, 1}, new int[] {0, 1, 1, 0}), 0.0, 0.0, 0.0, 0.0);
        // Two triangles that meet in (3/2, 3/2): the pieces' parts are exact halves.
        dueAreas("halves", laid(new int[] {0, 0, 3, 0, 0, 3}, new int[] {0, 0, 3, 3, 3, 0}), 13.5, 4.5, 4.5, 9);
        // Below, x = 1/3 and such: the sum over the bounding pieces, step by step as the document says.
        PlaneOverlay thirds = laid(new int[] {0, 0, 5, 1, 1, 5}, new int[] {3, 0, 4, 4, -1, 2});
        for (int result = 0; result < 4; result++) {
            int asks = result;
            due("thirds area(" + asks + ")", summedAsTold(thirds, asks), () -> thirds.area(asks));
        }
    }

    private static double summedAsTold(PlaneOverlay x, int result) {
        double sum = 0.0;
        for (int k = 0; k < x.bounds(result); k++) {
            int piece = x.bound(result, k);
            int a = x.piece(piece, 0);
            int b = x.piece(piece, 1);
            double whole = (double) x.point(a, 0) * x.point(b, 1) - (double) x.point(b, 0) * x.point(a, 1);
            double quotient = whole / ((double) x.point(a, 2) * x.point(b, 2));
            boolean in0 = x.piece(piece, 4) == 1;
            boolean in1 = x.piece(piece, 5) == 1;
            boolean[] left = {in0 || in1, in0 && in1, in0 && !in1, in0 ^ in1};
            sum += (left[result] ? 1 : -1) * quotient;
        }
        return sum;
    }

    public static void main(String[] args) {
        test("The public face", PlaneOverlayTest::testFace);
        test("Promise 1: A new object", PlaneOverlayTest::testPromise1);
        test("Promise 2: vertex", PlaneOverlayTest::testPromise2);
        test("Promise 3: clear", PlaneOverlayTest::testPromise3);
        test("Promise 4: overlay", PlaneOverlayTest::testPromise4);
        test("Promise 5: size", PlaneOverlayTest::testPromise5);
        test("Promise 6: point", PlaneOverlayTest::testPromise6);
        test("Promise 7: piece", PlaneOverlayTest::testPromise7);
        test("Promise 8: common", PlaneOverlayTest::testPromise8);
        test("Promise 9: shared", PlaneOverlayTest::testPromise9);
        test("Promises 10 and 11: bounds, bound", PlaneOverlayTest::testPromises10And11);
        test("Promise 12: where", PlaneOverlayTest::testPromise12);
        test("Promise 13: area", PlaneOverlayTest::testPromise13);
        end();
    }
}
