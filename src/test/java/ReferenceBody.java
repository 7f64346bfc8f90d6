import java.util.ArrayList;
import java.util.Arrays;
import java.util.HashSet;
import java.util.List;
import java.util.Set;
import java.util.TreeSet;

/**
 * The same body worked out in another way, to compare with: the box is clipped by one cut after
 * the other, over fractions, and what the document says by dimensions is decided by ranks.
 */
final class ReferenceBody {
    static final int BAD = -1000000;
    static final int FULL = -1000001;
    static final int NONE = -1000002;

    /** A fraction in lowest terms with a denominator above 0. */
    record Fraction(long over, long under) implements Comparable<Fraction> {
        static Fraction of(long over, long under) {
            long divisor = greatestDivisor(over, under);
            long signed = under < 0 ? -divisor : divisor;
            return new Fraction(over / signed, under / signed);
        }

        static Fraction of(long number) {
            return new Fraction(number, 1);
        }

        Fraction plus(Fraction other) {
            return of(
                    Math.addExact(
                            Math.multiplyExact(over, other.under),
                            Math.multiplyExact(other.over, under)),
                    Math.multiplyExact(under, other.under));
        }

        Fraction times(Fraction other) {
            return of(
                    Math.multiplyExact(over, other.over), Math.multiplyExact(under, other.under));
        }

        Fraction minus(Fraction other) {
            return plus(of(-other.over, other.under));
        }

        Fraction dividedBy(Fraction other) {
            return times(of(other.under, other.over));
        }

        int sign() {
            return Long.signum(over);
        }

        @Override
        public int compareTo(Fraction other) {
            return minus(other).sign();
        }
    }

    /** A point of space or of the plane, ordered coordinate by coordinate. */
    record Point(List<Fraction> at) implements Comparable<Point> {
        @Override
        public int compareTo(Point other) {
            for (int axis = 0; axis < at.size(); axis++) {
                int order = at.get(axis).compareTo(other.at.get(axis));
                if (order != 0) {
                    return order;
                }
            }
            return 0;
        }
    }

    private final List<int[]> cuts = new ArrayList<>();
    private List<Point> known;

    int cut(int normal, int d) {
        if (cuts.size() == 8) {
            return FULL;
        }
        if (normal < 0 || normal > 728 || normal == 364 || Math.abs((long) d) > 60) {
            return BAD;
        }
        int[] n = unpacked(normal);
        cuts.add(new int[] {n[0], n[1], n[2], d});
        known = null;
        return cuts.size();
    }

    int drop(int i) {
        if (i < 0 || i >= cuts.size()) {
            return BAD;
        }
        cuts.remove(i);
        known = null;
        return cuts.size();
    }

    int dimension() {
        return dimensionOf(points());
    }

    int corners() {
        return points().size();
    }

    int top(int k, int axis) {
        if (axis < 0 || axis > 2) {
            return BAD;
        }
        if (k < 0 || k >= corners()) {
            return NONE;
        }
        Fraction coordinate = points().get(k).at().get(axis);
        return Math.toIntExact(coordinate.over() * (bottom(k) / coordinate.under()));
    }

    int bottom(int k) {
        if (k < 0 || k >= corners()) {
            return NONE;
        }
        long multiple = 1;
        for (Fraction coordinate : points().get(k).at()) {
            long under = coordinate.under();
            multiple = multiple / greatestDivisor(multiple, under) * under;
        }
        return Math.toIntExact(multiple);
    }

    int edges() {
        int count = 0;
        for (int k = 0; k < corners(); k++) {
            for (int l = 0; l < k; l++) {
                count += neighbours(k, l) ? 1 : 0;
            }
        }
        return count;
    }

    int faces() {
        if (dimension() < 3) {
            return dimension() == 2 ? 1 : 0;
        }
        Set<List<Point>> sets = new HashSet<>();
        for (int[] halfspace : halfspaces(cuts)) {
            List<Point> inPlane = new ArrayList<>(points());
            inPlane.removeIf(point -> excess(halfspace, point).sign() != 0);
            if (dimensionOf(inPlane) == 2) {
                sets.add(inPlane);
            }
        }
        return sets.size();
    }

    int on(int i) {
        if (i < 0 || i >= cuts.size()) {
            return BAD;
        }
        int count = 0;
        for (Point point : points()) {
            count += excess(cuts.get(i), point).sign() == 0 ? 1 : 0;
        }
        return count;
    }

    boolean needless(int i) {
        if (i < 0 || i >= cuts.size()) {
            return false;
        }
        List<int[]> others = new ArrayList<>(cuts);
        others.remove(i);
        return cornersOf(others).equals(points());
    }

    int hops(int k, int l) {
        int count = corners();
        if (k < 0 || k >= count || l < 0 || l >= count) {
            return NONE;
        }
        int[][] way = new int[count][count];
        for (int i = 0; i < count; i++) {
            for (int j = 0; j < count; j++) {
                way[i][j] = i == j ? 0 : neighbours(i, j) ? 1 : 1000;
            }
        }
        for (int by = 0; by < count; by++) {
            for (int i = 0; i < count; i++) {
                for (int j = 0; j < count; j++) {
                    way[i][j] = Math.min(way[i][j], way[i][by] + way[by][j]);
                }
            }
        }
        return way[k][l];
    }

    int mostTop(int normal) {
        if (normal < 0 || normal > 728) {
            return BAD;
        }
        return corners() == 0 ? NONE : Math.toIntExact(most(normal).over());
    }

    int mostBottom(int normal) {
        if (normal < 0 || normal > 728) {
            return BAD;
        }
        return corners() == 0 ? NONE : Math.toIntExact(most(normal).under());
    }

    int whole() {
        int count = 0;
        for (int cell = 0; cell < 17 * 17 * 17; cell++) {
            int x = cell % 17 - 8;
            int y = cell / 17 % 17 - 8;
            int z = cell / 289 - 8;
            boolean inside = true;
            for (int[] cut : cuts) {
                inside &= cut[0] * x + cut[1] * y + cut[2] * z <= cut[3];
            }
            count += inside ? 1 : 0;
        }
        return count;
    }

    int shadow(int axis) {
        if (axis < 0 || axis > 2) {
            return BAD;
        }
        Set<Point> seen = new TreeSet<>();
        for (Point point : points()) {
            List<Fraction> flat = new ArrayList<>(point.at());
            flat.remove(axis);
            seen.add(new Point(flat));
        }
        int count = 0;
        for (Point point : seen) {
            count += isCornerOfFlat(point, seen) ? 1 : 0;
        }
        return count;
    }

    int section(int axis, int k) {
        if (axis < 0 || axis > 2 || k < -8 || k > 8) {
            return BAD;
        }
        List<int[]> more = new ArrayList<>(cuts);
        more.add(across(axis, 1, k));
        more.add(across(axis, -1, -k));
        return cornersOf(more).size();
    }

    int cuts() {
        return cuts.size();
    }

    static int[] unpacked(int normal) {
        return new int[] {normal % 9 - 4, normal / 9 % 9 - 4, normal / 81 - 4};
    }

    private static long greatestDivisor(long a, long b) {
        return b == 0 ? Math.abs(a) : greatestDivisor(b, a % b);
    }

    private static int[] across(int axis, int sign, int d) {
        int[] halfspace = {0, 0, 0, d};
        halfspace[axis] = sign;
        return halfspace;
    }

    private static List<int[]> halfspaces(List<int[]> some) {
        List<int[]> all = new ArrayList<>();
        for (int axis = 0; axis < 3; axis++) {
            all.add(across(axis, 1, 8));
            all.add(across(axis, -1, 8));
        }
        all.addAll(some);
        return all;
    }

    private List<Point> points() {
        if (known == null) {
            known = cornersOf(cuts);
        }
        return known;
    }

    private static Fraction excess(int[] halfspace, Point point) {
        Fraction sum = Fraction.of(-halfspace[3]);
        for (int axis = 0; axis < 3; axis++) {
            sum = sum.plus(Fraction.of(halfspace[axis]).times(point.at().get(axis)));
        }
        return sum;
    }

    private static List<Point> cornersOf(List<int[]> some) {
        Set<Point> now = new TreeSet<>();
        for (int bits = 0; bits < 8; bits++) {
            List<Fraction> at = new ArrayList<>();
            for (int axis = 0; axis < 3; axis++) {
                at.add(Fraction.of((bits >> axis & 1) == 0 ? -8 : 8));
            }
            now.add(new Point(at));
        }
        for (int count = 1; count <= some.size(); count++) {
            now = clipped(now, some.get(count - 1));
            List<int[]> sofar = halfspaces(some.subList(0, count));
            now.removeIf(point -> rank(normalsAt(sofar, point)) < 3);
        }
        return new ArrayList<>(now);
    }

    private static Set<Point> clipped(Set<Point> points, int[] cut) {
        Set<Point> kept = new TreeSet<>();
        for (Point in : points) {
            Fraction inside = excess(cut, in);
            if (inside.sign() <= 0) {
                kept.add(in);
            }
            for (Point out : points) {
                Fraction outside = excess(cut, out);
                if (inside.sign() < 0 && outside.sign() > 0) {
                    kept.add(between(in, out, inside.dividedBy(inside.minus(outside))));
                }
            }
        }
        return kept;
    }

    private static Point between(Point from, Point to, Fraction share) {
        List<Fraction> at = new ArrayList<>();
        for (int axis = 0; axis < 3; axis++) {
            Fraction start = from.at().get(axis);
            at.add(start.plus(share.times(to.at().get(axis).minus(start))));
        }
        return new Point(at);
    }

    private static List<Fraction[]> normalsAt(List<int[]> halfspaces, Point... points) {
        List<Fraction[]> rows = new ArrayList<>();
        for (int[] halfspace : halfspaces) {
            if (Arrays.stream(points).allMatch(point -> excess(halfspace, point).sign() == 0)) {
                rows.add(
                        new Fraction[] {
                            Fraction.of(halfspace[0]),
                            Fraction.of(halfspace[1]),
                            Fraction.of(halfspace[2])
                        });
            }
        }
        return rows;
    }

    private static int rank(List<Fraction[]> rows) {
        int rank = 0;
        for (int column = 0; column < 3; column++) {
            int pivot = rank;
            while (pivot < rows.size() && rows.get(pivot)[column].sign() == 0) {
                pivot++;
            }
            if (pivot == rows.size()) {
                continue;
            }
            Fraction[] chosen = rows.get(pivot);
            rows.set(pivot, rows.get(rank));
            rows.set(rank, chosen);
            for (int row = rank + 1; row < rows.size(); row++) {
                Fraction factor = rows.get(row)[column].dividedBy(chosen[column]);
                for (int cell = 0; cell < 3; cell++) {
                    Fraction less = factor.times(chosen[cell]);
                    rows.get(row)[cell] = rows.get(row)[cell].minus(less);
                }
            }
            rank++;
        }
        return rank;
    }

    private static int dimensionOf(List<Point> points) {
        if (points.isEmpty()) {
            return -1;
        }
        List<Fraction[]> ways = new ArrayList<>();
        for (Point point : points) {
            Fraction[] way = new Fraction[3];
            for (int axis = 0; axis < 3; axis++) {
                way[axis] = point.at().get(axis).minus(points.get(0).at().get(axis));
            }
            ways.add(way);
        }
        return rank(ways);
    }

    private boolean neighbours(int k, int l) {
        return rank(normalsAt(halfspaces(cuts), points().get(k), points().get(l))) == 2;
    }

    private Fraction most(int normal) {
        int[] n = unpacked(normal);
        int[] through = {n[0], n[1], n[2], 0};
        Fraction most = excess(through, points().get(0));
        for (Point point : points()) {
            Fraction value = excess(through, point);
            most = value.compareTo(most) > 0 ? value : most;
        }
        return most;
    }

    /** A point is a corner iff all others are seen from it within less than half a turn. */
    private static boolean isCornerOfFlat(Point point, Set<Point> all) {
        if (all.size() == 1) {
            return true;
        }
        for (Point first : all) {
            if (first != point && isRightmost(point, first, all)) {
                return true;
            }
        }
        return false;
    }

    private static boolean isRightmost(Point from, Point first, Set<Point> all) {
        Fraction[] base = way(from, first);
        for (Point other : all) {
            if (other == from) {
                continue;
            }
            Fraction[] to = way(from, other);
            int turn = base[0].times(to[1]).minus(base[1].times(to[0])).sign();
            int along = base[0].times(to[0]).plus(base[1].times(to[1])).sign();
            if (turn < 0 || turn == 0 && along < 0) {
                return false;
            }
        }
        return true;
    }

    private static Fraction[] way(Point from, Point to) {
        return new Fraction[] {
            to.at().get(0).minus(from.at().get(0)), to.at().get(1).minus(from.at().get(1))
        };
    }
}
