import java.math.BigInteger;
import java.util.ArrayList;
import java.util.Arrays;
import java.util.List;
import java.util.NoSuchElementException;
import java.util.TreeMap;
import java.util.TreeSet;

/**
 * Compares every answer, for many polygons, with those of a slow reference that works in other ways: fractions of any
 * size, lines as equations, slanting rays from points that really lie beside a piece, regions by walking round them.
 */
public final class PlaneOverlayReferenceTest {
    private static final int NO_ELEMENT = -1;
    private static final int CALLS_OF_AN_OBJECT = 512;
    private static int wrong = 0;
    private static long asked = 0;

    /** A point (x / d, y / d) in lowest terms. */
    private record Spot(BigInteger x, BigInteger y, BigInteger d) implements Comparable<Spot> {
        static Spot of(BigInteger x, BigInteger y, BigInteger d) {
            BigInteger by = x.gcd(y).gcd(d);
            by = d.signum() < 0 ? by.negate() : by;
            return new Spot(x.divide(by), y.divide(by), d.divide(by));
        }

        static Spot of(long x, long y, long d) {
            return of(BigInteger.valueOf(x), BigInteger.valueOf(y), BigInteger.valueOf(d));
        }

        Spot middle(Spot other) {
            return of(x.multiply(other.d).add(other.x.multiply(d)), y.multiply(other.d).add(other.y.multiply(d)),
                    d.multiply(other.d).shiftLeft(1));
        }

        Spot moved(long byX, long byY, BigInteger parts) {
            return of(x.multiply(parts).add(d.multiply(BigInteger.valueOf(byX))),
                    y.multiply(parts).add(d.multiply(BigInteger.valueOf(byY))), d.multiply(parts));
        }

        public int compareTo(Spot other) {
            int order = x.multiply(other.d).compareTo(other.x.multiply(d));
            return order != 0 ? order : y.multiply(other.d).compareTo(other.y.multiply(d));
        }
    }

    private record Edge(int polygon, int x1, int y1, int x2, int y2) {
        Spot from() {
            return Spot.of(x1, y1, 1);
        }

        Spot to() {
            return Spot.of(x2, y2, 1);
        }

        long a() {
            return (long) y1 - y2;
        }

        long b() {
            return (long) x2 - x1;
        }

        long c() {
            return a() * x1 + b() * y1;
        }

        boolean has(Spot spot) {
            BigInteger onLine = BigInteger.valueOf(a()).multiply(spot.x).add(BigInteger.valueOf(b()).multiply(spot.y))
                    .subtract(BigInteger.valueOf(c()).multiply(spot.d));
            return onLine.signum() == 0 && between(spot.x, spot.d, x1, x2) && between(spot.y, spot.d, y1, y2);
        }

        private static boolean between(BigInteger n, BigInteger d, int one, int other) {
            return n.compareTo(d.multiply(BigInteger.valueOf(Math.min(one, other)))) >= 0
                    && n.compareTo(d.multiply(BigInteger.valueOf(Math.max(one, other)))) <= 0;
        }

        /** The ends of what this edge has in common with another one: none, one or two. */
        TreeSet<Spot> meets(Edge other) {
            TreeSet<Spot> found = new TreeSet<>();
            long det = a() * other.b() - other.a() * b();
            if (det != 0) {
                Spot spot = Spot.of(c() * other.b() - other.c() * b(), a() * other.c() - other.a() * c(), det);
                if (has(spot) && other.has(spot)) {
                    found.add(spot);
                }
                return found;
            }
            for (Spot end : List.of(from(), to(), other.from(), other.to())) {
                if (has(end) && other.has(end)) {
                    found.add(end);
                }
            }
            return found;
        }
    }

    private record Piece(int first, int last) implements Comparable<Piece> {
        public int compareTo(Piece other) {
            return first != other.first ? Integer.compare(first, other.first) : Integer.compare(last, other.last);
        }
    }

    private static final class Reference {
        final List<Edge> edges = new ArrayList<>();
        final List<Spot> points = new ArrayList<>();
        final List<Piece> pieces = new ArrayList<>();
        final List<int[]> facts = new ArrayList<>();
        int pairs = 0;

        Reference(int[][] polygons) {
            for (int polygon = 0; polygon < 2; polygon++) {
                takeEdges(polygon, polygons[polygon]);
            }
            TreeSet<Spot> spots = new TreeSet<>();
            for (int a = 0; a < edges.size(); a++) {
                spots.add(edges.get(a).from());
                spots.add(edges.get(a).to());
                for (int b = a + 1; b < edges.size(); b++) {
                    TreeSet<Spot> met = edges.get(a).meets(edges.get(b));
                    pairs += met.isEmpty() ? 0 : 1;
                    if (met.size() == 1) {
                        spots.addAll(met);
                    }
                }
            }
            points.addAll(spots);
            takePieces();
            for (Piece piece : pieces) {
                facts.add(factsOf(piece));
            }
        }

        private void takeEdges(int polygon, int[] at) {
            int count = at.length / 2;
            for (int k = 0; k < count && count >= 2; k++) {
                int next = (k + 1) % count;
                Edge edge = new Edge(polygon, at[2 * k], at[2 * k + 1], at[2 * next], at[2 * next + 1]);
                if (!edge.from().equals(edge.to())) {
                    edges.add(edge);
                }
            }
        }

        private void takePieces() {
            TreeSet<Piece> all = new TreeSet<>();
            for (Edge edge : edges) {
                int before = -1;
                for (int k = 0; k < points.size(); k++) {
                    if (edge.has(points.get(k))) {
                        if (before >= 0) {
                            all.add(new Piece(before, k));
                        }
                        before = k;
                    }
                }
            }
            pieces.addAll(all);
        }

        private int[] factsOf(Piece piece) {
            Spot middle = points.get(piece.first).middle(points.get(piece.last));
            int[] lying = new int[2];
            Edge below = null;
            for (Edge edge : edges) {
                if (edge.has(middle)) {
                    lying[edge.polygon]++;
                    below = edge;
                }
            }
            int forward = below.from().compareTo(below.to()) < 0 ? 1 : -1;
            long leftX = forward * ((long) below.y1 - below.y2);
            long leftY = forward * ((long) below.x2 - below.x1);
            BigInteger parts = BigInteger.TEN.pow(16);
            Spot left = middle.moved(leftX, leftY, parts);
            Spot right = middle.moved(-leftX, -leftY, parts);
            return new int[] {piece.first, piece.last, lying[0], lying[1],
                inside(0, left), inside(1, left), inside(0, right), inside(1, right)};
        }

        int inside(int polygon, Spot spot) {
            for (long slant = 1; ; slant++) {
                int crossed = crossed(polygon, spot, 1009 + slant, 31 * slant);
                if (crossed >= 0) {
                    return crossed % 2;
                }
            }
        }

        /** How many edges a ray crosses, or -1 if it goes through an end. */
        private int crossed(int polygon, Spot spot, long wayX, long wayY) {
            int found = 0;
            for (Edge edge : edges) {
                if (edge.polygon == polygon) {
                    int one = side(spot, wayX, wayY, edge.x1, edge.y1);
                    int other = side(spot, wayX, wayY, edge.x2, edge.y2);
                    if (one == 0 || other == 0) {
                        return -1;
                    }
                    // The ray's start must lie on that side of the edge from which its way leads across.
                    BigInteger start = BigInteger.valueOf(edge.c()).multiply(spot.d)
                            .subtract(BigInteger.valueOf(edge.a()).multiply(spot.x))
                            .subtract(BigInteger.valueOf(edge.b()).multiply(spot.y));
                    long way = edge.a() * wayX + edge.b() * wayY;
                    if (one != other && start.signum() == Long.signum(way)) {
                        found++;
                    }
                }
            }
            return found;
        }

        private static int side(Spot spot, long wayX, long wayY, int x, int y) {
            BigInteger toX = BigInteger.valueOf(x).multiply(spot.d).subtract(spot.x);
            BigInteger toY = BigInteger.valueOf(y).multiply(spot.d).subtract(spot.y);
            return BigInteger.valueOf(wayX).multiply(toY).subtract(BigInteger.valueOf(wayY).multiply(toX)).signum();
        }

        int where(int polygon, Spot spot) {
            for (Edge edge : edges) {
                if (edge.polygon == polygon && edge.has(spot)) {
                    return 2;
                }
            }
            return inside(polygon, spot);
        }

        /** Walks round every region's rims; all rims that run round a connected part from outside count as one. */
        int regions() {
            int rims = 0;
            boolean[][] walked = new boolean[points.size()][points.size()];
            for (Piece piece : pieces) {
                rims += walk(walked, piece.first, piece.last) ? 1 : 0;
                rims += walk(walked, piece.last, piece.first) ? 1 : 0;
            }
            return rims - parts() + 1;
        }

        private boolean walk(boolean[][] walked, int from, int to) {
            boolean isNew = !walked[from][to];
            while (!walked[from][to]) {
                walked[from][to] = true;
                int next = nextRound(to, from);
                from = to;
                to = next;
            }
            return isNew;
        }

        /** The neighbour of a point that follows another neighbour clockwise. */
        private int nextRound(int at, int neighbour) {
            TreeMap<Double, Integer> round = new TreeMap<>();
            for (Piece piece : pieces) {
                if (piece.first == at || piece.last == at) {
                    int other = piece.first == at ? piece.last : piece.first;
                    round.put(angle(at, other), other);
                }
            }
            Double before = round.lowerKey(angle(at, neighbour));
            return round.get(before != null ? before : round.lastKey());
        }

        private double angle(int at, int other) {
            Spot p = points.get(at);
            Spot q = points.get(other);
            BigInteger x = q.x.multiply(p.d).subtract(p.x.multiply(q.d));
            BigInteger y = q.y.multiply(p.d).subtract(p.y.multiply(q.d));
            return Math.atan2(y.doubleValue(), x.doubleValue());
        }

        private int parts() {
            int[] part = new int[points.size()];
            for (int k = 0; k < part.length; k++) {
                part[k] = k;
            }
            int count = part.length;
            for (Piece piece : pieces) {
                int one = part[piece.first];
                int other = part[piece.last];
                count -= one != other ? 1 : 0;
                for (int k = 0; k < part.length; k++) {
                    part[k] = part[k] == other ? one : part[k];
                }
            }
            return count;
        }

        boolean isIn(int result, int zero, int one) {
            int kind = 2 * zero + one;
            return Arrays.asList(List.of(1, 2, 3), List.of(3), List.of(2), List.of(1, 2)).get(result).contains(kind);
        }

        List<Integer> bounding(int result) {
            List<Integer> found = new ArrayList<>();
            for (int k = 0; k < pieces.size(); k++) {
                int[] f = facts.get(k);
                if (isIn(result, f[4], f[5]) != isIn(result, f[6], f[7])) {
                    found.add(k);
                }
            }
            return found;
        }

        double area(int result) {
            double sum = 0.0;
            for (int k : bounding(result)) {
                int[] f = facts.get(k);
                Spot p = points.get(f[0]);
                Spot q = points.get(f[1]);
                double whole = p.x.multiply(q.y).subtract(q.x.multiply(p.y)).doubleValue();
                double quotient = whole / p.d.multiply(q.d).doubleValue();
                sum += (isIn(result, f[4], f[5]) ? 1 : -1) * quotient;
            }
            return sum;
        }
    }

    /** The object that is asked, made again when it has had as many calls as the document allows. */
    private static final class Subject {
        final int[][] polygons;
        PlaneOverlay plane;
        int calls = CALLS_OF_AN_OBJECT;

        Subject(int[][] polygons) {
            this.polygons = polygons;
        }

        PlaneOverlay next() {
            if (calls >= CALLS_OF_AN_OBJECT) {
                plane = new PlaneOverlay();
                calls = 0;
                // What an overlay before this one leaves behind must not show.
                for (int[] at : new int[][] {{-9, -9, 9, 8, -8, 7, 7, -8}, {0, 9, 2, -9, 5, 9}}) {
                    put(calls == 0 ? 0 : 1, at);
                }
                plane.overlay();
                plane.clear(0);
                plane.clear(1);
                put(0, polygons[0]);
                put(1, polygons[1]);
                plane.overlay();
                calls += 4;
            }
            calls++;
            return plane;
        }

        private void put(int polygon, int[] at) {
            for (int k = 0; k < at.length; k += 2) {
                plane.vertex(polygon, at[k], at[k + 1]);
                calls++;
            }
        }
    }

    private static void due(Subject subject, String call, double got, double want) {
        asked++;
        if (Double.compare(got, want) != 0) {
            wrong++;
            if (wrong <= 20) {
                System.out.println(Arrays.deepToString(subject.polygons) + " " + call + " answered " + got
                        + ", due is " + want);
            }
        }
    }

    private static int sharedOrNone(PlaneOverlay plane, int a, int b, boolean last) {
        try {
            return plane.shared(a, b, last);
        } catch (NoSuchElementException e) {
            return NO_ELEMENT;
        }
    }

    private static void compare(int[][] polygons) {
        Reference reference = new Reference(polygons);
        Subject subject = new Subject(polygons);
        due(subject, "size(0)", subject.next().size(0), reference.edges.size());
        due(subject, "size(1)", subject.next().size(1), reference.points.size());
        due(subject, "size(2)", subject.next().size(2), reference.pieces.size());
        due(subject, "overlay()", subject.next().overlay(), reference.pieces.size());
        due(subject, "size(3)", subject.next().size(3), reference.regions());
        due(subject, "size(4)", subject.next().size(4), reference.pairs);
        if (wrong > 0) {
            return;
        }
        comparePoints(reference, subject);
        comparePieces(reference, subject);
        compareEdges(reference, subject);
        compareResults(reference, subject);
    }

    private static void comparePoints(Reference reference, Subject subject) {
        for (int k = 0; k < reference.points.size(); k++) {
            Spot spot = reference.points.get(k);
            int x = spot.x.intValueExact();
            int y = spot.y.intValueExact();
            int d = spot.d.intValueExact();
            due(subject, "point(" + k + ", 0)", subject.next().point(k, 0), x);
            due(subject, "point(" + k + ", 1)", subject.next().point(k, 1), y);
            due(subject, "point(" + k + ", 2)", subject.next().point(k, 2), d);
            if (d <= 1000 && Math.abs(x) <= 99990 && Math.abs(y) <= 99990) {
                compareWhere(reference, subject, x, y, d);
                compareWhere(reference, subject, x + 1, y, d);
                compareWhere(reference, subject, x, y - 1, d);
            }
        }
    }

    private static void compareWhere(Reference reference, Subject subject, int x, int y, int d) {
        for (int polygon = 0; polygon < 2; polygon++) {
            due(subject, "where(" + polygon + ", " + x + ", " + y + ", " + d + ")",
                    subject.next().where(polygon, x, y, d), reference.where(polygon, Spot.of(x, y, d)));
        }
    }

    private static void comparePieces(Reference reference, Subject subject) {
        for (int k = 0; k < reference.pieces.size(); k++) {
            for (int what = 0; what < 8; what++) {
                due(subject, "piece(" + k + ", " + what + ")", subject.next().piece(k, what),
                        reference.facts.get(k)[what]);
            }
        }
    }

    private static void compareEdges(Reference reference, Subject subject) {
        for (int a = 0; a < reference.edges.size(); a++) {
            for (int b = 0; b < reference.edges.size(); b++) {
                TreeSet<Spot> met = a == b ? new TreeSet<>() : reference.edges.get(a).meets(reference.edges.get(b));
                int first = met.isEmpty() ? NO_ELEMENT : reference.points.indexOf(met.first());
                int last = met.isEmpty() ? NO_ELEMENT : reference.points.indexOf(met.last());
                due(subject, "common(" + a + ", " + b + ")", subject.next().common(a, b), met.size());
                due(subject, "shared(" + a + ", " + b + ", false)", sharedOrNone(subject.next(), a, b, false), first);
                due(subject, "shared(" + a + ", " + b + ", true)", sharedOrNone(subject.next(), a, b, true), last);
            }
        }
    }

    private static void compareResults(Reference reference, Subject subject) {
        for (int result = 0; result < 4; result++) {
            List<Integer> bounding = reference.bounding(result);
            due(subject, "bounds(" + result + ")", subject.next().bounds(result), bounding.size());
            for (int k = 0; k < bounding.size(); k++) {
                due(subject, "bound(" + result + ", " + k + ")", subject.next().bound(result, k), bounding.get(k));
            }
            due(subject, "area(" + result + ")", subject.next().area(result), reference.area(result));
        }
    }

    /** A fixed row of numbers that look mixed, so that every run asks the same. */
    private static final class Mixer {
        long state = 20261117L;

        int below(int bound) {
            state = state * 6364136223846793005L + 1442695040888963407L;
            return (int) ((state >>> 33) % bound);
        }

        int[] polygon(int vertices, int farthest, int step) {
            int[] at = new int[2 * vertices];
            for (int k = 0; k < at.length; k++) {
                at[k] = step * (below(2 * farthest + 1) - farthest);
            }
            return at;
        }
    }

    public static void main(String[] args) {
        Mixer mixer = new Mixer();
        int[][] ranges = {{1, 1}, {1, 30}, {2, 1}, {2, 15}, {3, 10}, {6, 5}, {15, 2}, {30, 1}, {30, 1}};
        for (int round = 0; round < 1800 && wrong == 0; round++) {
            int[] range = ranges[round % ranges.length];
            boolean isFull = mixer.below(3) > 0;
            int zero = isFull ? 6 : mixer.below(7);
            int one = isFull ? 6 : mixer.below(7);
            compare(new int[][] {mixer.polygon(zero, range[0], range[1]), mixer.polygon(one, range[0], range[1])});
        }
        // Two stars that cross as often as they can, and slender ones that reach the far corners.
        int[] wide = {-30, 1, 30, -2, -29, 9, 29, -11, -28, 17, 27, 14};
        int[] high = {1, -30, -2, 30, 9, -29, -11, 29, 17, -28, 14, 27};
        compare(new int[][] {wide, high});
        compare(new int[][] {{-30, -30, 30, 29, -29, -30, 29, 30, -30, -29, 30, 30},
            {-30, 30, 30, -29, -29, 30, 30, -30, -30, 29, 29, -30}});
        System.out.println(asked + " answers asked for, " + wrong + " not as due");
        if (wrong != 0) {
            System.exit(1);
        }
    }
}
