import java.util.NoSuchElementException;

/**
 * Lays two polygons over one another: their edges are cut into pieces wherever edges meet, and each piece
 * knows what lies on its two sides. All coordinates are whole numbers over a common whole divisor.
 */
public final class PlaneOverlay {
    private static final int POLYGONS = 2;
    private static final int MOST_VERTICES = 6;
    private static final int FARTHEST = 30;
    private static final int FARTHEST_ASKED = 100000;
    private static final int GREATEST_DIVISOR = 1000;
    private static final int RESULTS = 4;
    private static final int MOST_EDGES = POLYGONS * MOST_VERTICES;
    // Every end is one in which an edge begins, and each pair of edges gives one point more at most.
    private static final int MOST_POINTS = MOST_EDGES + MOST_EDGES * (MOST_EDGES - 1) / 2;
    // On an edge lie its two ends and at most two points for each other edge: 24 points make 23 pieces.
    private static final int MOST_PIECES = MOST_EDGES * (2 * MOST_EDGES - 1);

    private final int[][] vertexX;
    private final int[][] vertexY;
    private final int[] vertexCount;
    private final Edges edges;
    private final Points points;
    private final Pieces pieces;
    private final Meetings meetings;
    private boolean isMade;

    public PlaneOverlay() {
        vertexX = new int[POLYGONS][MOST_VERTICES];
        vertexY = new int[POLYGONS][MOST_VERTICES];
        vertexCount = new int[POLYGONS];
        edges = new Edges();
        points = new Points();
        pieces = new Pieces();
        meetings = new Meetings();
        isMade = false;
    }

    public int vertex(int polygon, int x, int y) throws IllegalArgumentException, IllegalStateException {
        needPolygon(polygon);
        if (!isWithin(x, FARTHEST) || !isWithin(y, FARTHEST)) {
            throw new IllegalArgumentException("a coordinate is out of range");
        }
        int count = vertexCount[polygon];
        if (count >= MOST_VERTICES) {
            throw new IllegalStateException("the polygon is full");
        }
        vertexX[polygon][count] = x;
        vertexY[polygon][count] = y;
        vertexCount[polygon] = count + 1;
        return count + 1;
    }

    public int clear(int polygon) throws IllegalArgumentException {
        needPolygon(polygon);
        int count = vertexCount[polygon];
        vertexCount[polygon] = 0;
        return count;
    }

    public int overlay() {
        edges.empty();
        for (int polygon = 0; polygon < POLYGONS; polygon++) {
            takeEdges(polygon);
        }
        points.gather(edges);
        pieces.cut(edges, points);
        meetings.find(edges.count, points);
        isMade = true;
        return pieces.count;
    }

    public int size(int what) throws IllegalStateException, IllegalArgumentException {
        needOverlay();
        switch (what) {
            case 0:
                return edges.count;
            case 1:
                return points.count;
            case 2:
                return pieces.count;
            case 3:
                // Euler: points - pieces + regions = 1 + connected parts.
                return 1 + meetings.parts + pieces.count - points.count;
            case 4:
                return meetings.pairs;
            default:
                throw new IllegalArgumentException("there is no such size");
        }
    }

    public int point(int k, int what)
            throws IllegalStateException, IndexOutOfBoundsException, IllegalArgumentException {
        needOverlay();
        if (k < 0 || k >= points.count) {
            throw new IndexOutOfBoundsException("there is no such point");
        }
        switch (what) {
            case 0:
                return points.x[k];
            case 1:
                return points.y[k];
            case 2:
                return points.d[k];
            default:
                throw new IllegalArgumentException("a point has no such number");
        }
    }

    public int piece(int k, int what)
            throws IllegalStateException, IndexOutOfBoundsException, IllegalArgumentException {
        needOverlay();
        if (k < 0 || k >= pieces.count) {
            throw new IndexOutOfBoundsException("there is no such piece");
        }
        if (what < 0 || what >= Pieces.FACTS) {
            throw new IllegalArgumentException("a piece has no such number");
        }
        return pieces.facts[what][k];
    }

    public int common(int a, int b) throws IllegalStateException, IndexOutOfBoundsException {
        needOverlay();
        needEdges(a, b);
        int first = a == b ? Points.NONE : points.firstOnBoth(a, b);
        if (first == Points.NONE) {
            return 0;
        }
        // The ends of a line in common are points too, so a line shows as two points that differ.
        return first == points.lastOnBoth(a, b) ? 1 : 2;
    }

    public int shared(int a, int b, boolean last)
            throws IllegalStateException, IndexOutOfBoundsException, NoSuchElementException {
        needOverlay();
        needEdges(a, b);
        if (a == b) {
            throw new NoSuchElementException("the same edge was named twice");
        }
        int found = last ? points.lastOnBoth(a, b) : points.firstOnBoth(a, b);
        if (found == Points.NONE) {
            throw new NoSuchElementException("the edges have nothing in common");
        }
        return found;
    }

    public int bounds(int result) throws IllegalStateException, IllegalArgumentException {
        needOverlay();
        needResult(result);
        int found = 0;
        for (int k = 0; k < pieces.count; k++) {
            if (pieces.divides(k, result)) {
                found++;
            }
        }
        return found;
    }

    public int bound(int result, int k)
            throws IllegalStateException, IllegalArgumentException, NoSuchElementException {
        needOverlay();
        needResult(result);
        int found = 0;
        for (int number = 0; number < pieces.count; number++) {
            if (pieces.divides(number, result)) {
                if (found == k) {
                    return number;
                }
                found++;
            }
        }
        throw new NoSuchElementException("so many pieces do not bound the result");
    }

    public int where(int polygon, int x, int y, int d) throws IllegalStateException, IllegalArgumentException {
        needOverlay();
        needPolygon(polygon);
        if (!isWithin(x, FARTHEST_ASKED) || !isWithin(y, FARTHEST_ASKED)) {
            throw new IllegalArgumentException("a coordinate is out of range");
        }
        if (d < 1 || d > GREATEST_DIVISOR) {
            throw new IllegalArgumentException("the divisor is out of range");
        }
        int own = edges.ofPolygon[polygon];
        if ((edges.through(x, y, d) & own) != 0) {
            return 2;
        }
        return Integer.bitCount(edges.above(x, y, d) & own) & 1;
    }

    public double area(int result) throws IllegalStateException, IllegalArgumentException {
        needOverlay();
        needResult(result);
        double sum = 0.0;
        for (int k = 0; k < pieces.count; k++) {
            if (pieces.divides(k, result)) {
                double side = pieces.isLeftInside(k, result) ? 1.0 : -1.0;
                sum = sum + side * points.doubleArea(pieces.facts[Pieces.FIRST][k], pieces.facts[Pieces.LAST][k]);
            }
        }
        return sum;
    }

    private void needOverlay() {
        if (!isMade) {
            throw new IllegalStateException("there is no overlay");
        }
    }

    private static void needPolygon(int polygon) {
        if (polygon < 0 || polygon >= POLYGONS) {
            throw new IllegalArgumentException("there is no such polygon");
        }
    }

    private static void needResult(int result) {
        if (result < 0 || result >= RESULTS) {
            throw new IllegalArgumentException("there is no such result");
        }
    }

    private void needEdges(int a, int b) {
        if (a < 0 || a >= edges.count || b < 0 || b >= edges.count) {
            throw new IndexOutOfBoundsException("there is no such edge");
        }
    }

    private static boolean isWithin(int coordinate, int farthest) {
        return coordinate >= -farthest && coordinate <= farthest;
    }

    private void takeEdges(int polygon) {
        int count = vertexCount[polygon];
        int[] x = vertexX[polygon];
        int[] y = vertexY[polygon];
        for (int from = 0; from < count; from++) {
            int to = from + 1 < count ? from + 1 : 0;
            edges.add(polygon, x[from], y[from], x[to], y[to]);
        }
    }

    /** The edges, each from the end that comes before to the other one; sets of edges are the bits of an int. */
    private static final class Edges {
        private final int[] firstX = new int[MOST_EDGES];
        private final int[] firstY = new int[MOST_EDGES];
        private final int[] lastX = new int[MOST_EDGES];
        private final int[] lastY = new int[MOST_EDGES];
        private final int[] ofPolygon = new int[POLYGONS];
        private int count = 0;

        void empty() {
            count = 0;
            for (int polygon = 0; polygon < POLYGONS; polygon++) {
                ofPolygon[polygon] = 0;
            }
        }

        void add(int polygon, int fromX, int fromY, int toX, int toY) {
            if (count >= MOST_EDGES || fromX == toX && fromY == toY) {
                return;
            }
            boolean isForward = fromX < toX || fromX == toX && fromY < toY;
            firstX[count] = isForward ? fromX : toX;
            firstY[count] = isForward ? fromY : toY;
            lastX[count] = isForward ? toX : fromX;
            lastY[count] = isForward ? toY : fromY;
            ofPolygon[polygon] = ofPolygon[polygon] | 1 << count;
            count++;
        }

        int spanX(int edge) {
            return lastX[edge] - firstX[edge];
        }

        int spanY(int edge) {
            return lastY[edge] - firstY[edge];
        }

        /** The edges on which (x / d, y / d) lies. */
        int through(long x, long y, long d) {
            int found = 0;
            for (int edge = 0; edge < count; edge++) {
                if (holds(edge, x, y, d)) {
                    found = found | 1 << edge;
                }
            }
            return found;
        }

        /**
         * The edges that a ray crosses which goes up from (x / d, y / d), moved to the right by less than any
         * distance there is: so it meets no vertex, and never runs along an upright edge.
         */
        int above(long x, long y, long d) {
            int found = 0;
            for (int edge = 0; edge < count; edge++) {
                if (firstX[edge] * d <= x && x < lastX[edge] * d && turn(edge, x, y, d) < 0) {
                    found = found | 1 << edge;
                }
            }
            return found;
        }

        private boolean holds(int edge, long x, long y, long d) {
            long low = Math.min(firstY[edge], lastY[edge]) * d;
            long high = Math.max(firstY[edge], lastY[edge]) * d;
            return firstX[edge] * d <= x && x <= lastX[edge] * d && low <= y && y <= high
                    && turn(edge, x, y, d) == 0;
        }

        /** Above 0 if the point is to the left of the edge's line, below 0 if it is to the right. */
        private long turn(int edge, long x, long y, long d) {
            return spanX(edge) * (y - firstY[edge] * d) - spanY(edge) * (x - firstX[edge] * d);
        }
    }

    /** The points in their order, in lowest terms, each with the set of the edges on which it lies. */
    private static final class Points {
        private static final int NONE = -1;
        // Divisors stay below 10000, for which Euclid's way needs some 20 steps.
        private static final int MOST_STEPS = 64;

        private final int[] x = new int[MOST_POINTS];
        private final int[] y = new int[MOST_POINTS];
        private final int[] d = new int[MOST_POINTS];
        private final int[] onEdges = new int[MOST_POINTS];
        private int count = 0;

        void gather(Edges edges) {
            count = 0;
            for (int a = 0; a < edges.count; a++) {
                insert(edges.firstX[a], edges.firstY[a], 1);
                insert(edges.lastX[a], edges.lastY[a], 1);
                for (int b = 0; b < a; b++) {
                    addMeeting(edges, a, b);
                }
            }
            for (int k = 0; k < count; k++) {
                onEdges[k] = edges.through(x[k], y[k], d[k]);
            }
        }

        int firstOnBoth(int a, int b) {
            int both = 1 << a | 1 << b;
            for (int k = 0; k < count; k++) {
                if ((onEdges[k] & both) == both) {
                    return k;
                }
            }
            return NONE;
        }

        int lastOnBoth(int a, int b) {
            int both = 1 << a | 1 << b;
            for (int k = count - 1; k >= 0; k--) {
                if ((onEdges[k] & both) == both) {
                    return k;
                }
            }
            return NONE;
        }

        /** Twice the area of the triangle of the origin and two points. */
        double doubleArea(int from, int to) {
            long across = (long) x[from] * y[to] - (long) x[to] * y[from];
            long divisor = (long) d[from] * d[to];
            return divisor > 0 ? (double) across / (double) divisor : 0.0;
        }

        private void addMeeting(Edges edges, int a, int b) {
            int across = cross(edges.spanX(a), edges.spanY(a), edges.spanX(b), edges.spanY(b));
            if (across == 0) {
                // Parallel edges that have just one point in common have it as an end.
                return;
            }
            int gapX = edges.firstX[b] - edges.firstX[a];
            int gapY = edges.firstY[b] - edges.firstY[a];
            int sign = across > 0 ? 1 : -1;
            int whole = sign * across;
            int alongA = sign * cross(gapX, gapY, edges.spanX(b), edges.spanY(b));
            int alongB = sign * cross(gapX, gapY, edges.spanX(a), edges.spanY(a));
            if (alongA < 0 || alongA > whole || alongB < 0 || alongB > whole) {
                return;
            }
            int meetX = edges.firstX[a] * whole + alongA * edges.spanX(a);
            int meetY = edges.firstY[a] * whole + alongA * edges.spanY(a);
            int divisor = greatestDivisor(greatestDivisor(whole, Math.abs(meetX)), Math.abs(meetY));
            if (divisor > 0) {
                insert(meetX / divisor, meetY / divisor, whole / divisor);
            }
        }

        private void insert(int newX, int newY, int newD) {
            int place = 0;
            while (place < count && isBefore(place, newX, newY, newD)) {
                place++;
            }
            if (count >= MOST_POINTS || place < count && isSame(place, newX, newY, newD)) {
                return;
            }
            for (int k = count; k > place; k--) {
                x[k] = x[k - 1];
                y[k] = y[k - 1];
                d[k] = d[k - 1];
            }
            x[place] = newX;
            y[place] = newY;
            d[place] = newD;
            count++;
        }

        private boolean isBefore(int k, int otherX, int otherY, int otherD) {
            long mine = (long) x[k] * otherD;
            long other = (long) otherX * d[k];
            if (mine != other) {
                return mine < other;
            }
            return (long) y[k] * otherD < (long) otherY * d[k];
        }

        private boolean isSame(int k, int otherX, int otherY, int otherD) {
            return x[k] == otherX && y[k] == otherY && d[k] == otherD;
        }

        private static int cross(int x1, int y1, int x2, int y2) {
            return x1 * y2 - x2 * y1;
        }

        private static int greatestDivisor(int a, int b) {
            int great = a;
            int small = b;
            for (int step = 0; step < MOST_STEPS && small != 0; step++) {
                int rest = great % small;
                great = small;
                small = rest;
            }
            return great;
        }
    }

    /** The pieces in their order; facts[what] is the row of what piece() tells for that what. */
    private static final class Pieces {
        private static final int FACTS = 8;
        private static final int FIRST = 0;
        private static final int LAST = 1;
        private static final int EDGES = 2;
        private static final int LEFT = 4;
        private static final int RIGHT = 6;

        private final int[][] facts = new int[FACTS][MOST_PIECES];
        private int count = 0;

        void cut(Edges edges, Points points) {
            count = 0;
            for (int first = 0; first < points.count; first++) {
                // Points are in order along every edge, so an edge's piece ends in the next point on it.
                int open = points.onEdges[first];
                for (int last = first + 1; last < points.count && open != 0; last++) {
                    int reached = open & points.onEdges[last];
                    if (reached != 0 && count < MOST_PIECES) {
                        add(edges, points, first, last, reached);
                    }
                    open = open & ~reached;
                }
            }
        }

        boolean isLeftInside(int k, int result) {
            return isInside(result, facts[LEFT][k] != 0, facts[LEFT + 1][k] != 0);
        }

        boolean isRightInside(int k, int result) {
            return isInside(result, facts[RIGHT][k] != 0, facts[RIGHT + 1][k] != 0);
        }

        boolean divides(int k, int result) {
            return isLeftInside(k, result) != isRightInside(k, result);
        }

        private void add(Edges edges, Points points, int first, int last, int lying) {
            long d1 = points.d[first];
            long d2 = points.d[last];
            long x1 = points.x[first] * d2;
            long x2 = points.x[last] * d1;
            long y1 = points.y[first] * d2;
            long y2 = points.y[last] * d1;
            int above = edges.above(x1 + x2, y1 + y2, 2 * d1 * d2);
            facts[FIRST][count] = first;
            facts[LAST][count] = last;
            for (int polygon = 0; polygon < POLYGONS; polygon++) {
                int own = edges.ofPolygon[polygon];
                int layers = Integer.bitCount(lying & own);
                // The ray from the middle starts above the piece, or to the right of it if it is upright.
                int near = Integer.bitCount(above & own) & 1;
                int far = near ^ (layers & 1);
                facts[EDGES + polygon][count] = layers;
                facts[LEFT + polygon][count] = x1 == x2 ? far : near;
                facts[RIGHT + polygon][count] = x1 == x2 ? near : far;
            }
            count++;
        }

        private static boolean isInside(int result, boolean inZero, boolean inOne) {
            switch (result) {
                case 0:
                    return inZero || inOne;
                case 1:
                    return inZero && inOne;
                case 2:
                    return inZero && !inOne;
                default:
                    return inZero != inOne;
            }
        }
    }

    /** Which edges meet: how many pairs do, and into how many connected parts all edges fall. */
    private static final class Meetings {
        private final int[] reach = new int[MOST_EDGES];
        private int pairs = 0;
        private int parts = 0;

        void find(int edgeCount, Points points) {
            for (int edge = 0; edge < edgeCount; edge++) {
                reach[edge] = edgesMet(edge, points);
            }
            pairs = countPairs(edgeCount);
            spread(edgeCount);
            parts = countParts(edgeCount);
        }

        private static int edgesMet(int edge, Points points) {
            int met = 0;
            for (int k = 0; k < points.count; k++) {
                if ((points.onEdges[k] & 1 << edge) != 0) {
                    met = met | points.onEdges[k];
                }
            }
            return met;
        }

        private int countPairs(int edgeCount) {
            int found = 0;
            for (int edge = 0; edge < edgeCount; edge++) {
                int before = (1 << edge) - 1;
                found += Integer.bitCount(reach[edge] & before);
            }
            return found;
        }

        private void spread(int edgeCount) {
            for (int over = 0; over < edgeCount; over++) {
                for (int edge = 0; edge < edgeCount; edge++) {
                    if ((reach[edge] & 1 << over) != 0) {
                        reach[edge] = reach[edge] | reach[over];
                    }
                }
            }
        }

        private int countParts(int edgeCount) {
            int found = 0;
            for (int edge = 0; edge < edgeCount; edge++) {
                int before = (1 << edge) - 1;
                if ((reach[edge] & before) == 0) {
                    found++;
                }
            }
            return found;
        }
    }
}
