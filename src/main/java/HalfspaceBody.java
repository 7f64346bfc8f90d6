/**
 * A body in space that is cut out by planes.
 *
 * <p>Only the cuts are kept between calls. Every question works out the corners anew from the
 * planes, so that no answer can be left over from before a cut or a drop.
 */
public final class HalfspaceBody {
    public static final int BAD = -1000000;
    public static final int FULL = -1000001;
    public static final int NONE = -1000002;

    private static final int REACH = 8;
    private static final int AXES = 3;
    private static final int NORMALS = 729;
    private static final int ZERO_NORMAL = 364;
    private static final int MOST_D = 60;
    private static final int MOST_CUTS = 8;
    private static final int BOX_PLANES = 6;
    private static final int NO_PLANE = -1;

    // A plane or a corner takes four cells: three for the axes, then d or the bottom.
    private static final int CELLS = 4;
    private static final int LAST = 3;
    // Box and cuts are 14 planes; a section is held between two more.
    private static final int PLANE_CELLS = 64;
    // A body with 14 faces has at most 2 * 14 - 4 = 24 corners, so 32 are never reached.
    private static final int MOST_CORNERS = 32;
    // One corner more than that, for the point that is being tried.
    private static final int CORNER_CELLS = 132;
    // Euclid's steps for two ints are fewer than 50.
    private static final int MOST_STEPS = 1000;

    private final int[] plane = new int[PLANE_CELLS];
    private final int[] corner = new int[CORNER_CELLS];
    // For each corner the planes that it lies in, one bit a plane.
    private final int[] touched = new int[MOST_CORNERS];
    private final int[] steps = new int[MOST_CORNERS];
    private int cuts = 0;
    private int found = 0;

    public HalfspaceBody() {
        for (int axis = 0; axis < AXES; axis++) {
            setPlaneAcross(2 * axis, axis, 1, REACH);
            setPlaneAcross(2 * axis + 1, axis, -1, REACH);
        }
    }

    public int cut(int normal, int d) {
        if (cuts >= MOST_CUTS) {
            return FULL;
        }
        if (!isNormal(normal) || normal == ZERO_NORMAL || d < -MOST_D || d > MOST_D) {
            return BAD;
        }
        int at = CELLS * (BOX_PLANES + cuts);
        for (int axis = 0; axis < AXES; axis++) {
            plane[at + axis] = part(normal, axis);
        }
        plane[at + LAST] = d;
        cuts++;
        return cuts;
    }

    public int drop(int i) {
        if (!isCut(i)) {
            return BAD;
        }
        int end = CELLS * (BOX_PLANES + cuts - 1);
        for (int cell = CELLS * (BOX_PLANES + i); cell < end; cell++) {
            plane[cell] = plane[cell + CELLS];
        }
        cuts--;
        return cuts;
    }

    public int dimension() {
        findBodyCorners();
        return dimensionOfCorners();
    }

    public int corners() {
        findBodyCorners();
        return found;
    }

    public int top(int k, int axis) {
        if (!isAxis(axis)) {
            return BAD;
        }
        findBodyCorners();
        return isCorner(k) ? corner[CELLS * k + axis] : NONE;
    }

    public int bottom(int k) {
        findBodyCorners();
        return isCorner(k) ? corner[CELLS * k + LAST] : NONE;
    }

    public int edges() {
        findBodyCorners();
        int count = 0;
        for (int k = 0; k < found; k++) {
            for (int l = k + 1; l < found; l++) {
                if (areNeighbours(k, l)) {
                    count++;
                }
            }
        }
        return count;
    }

    public int faces() {
        findBodyCorners();
        int dimension = dimensionOfCorners();
        if (dimension < 3) {
            return dimension == 2 ? 1 : 0;
        }
        int count = 0;
        for (int p = 0; p < BOX_PLANES + cuts; p++) {
            if (cornersIn(p) >= 3 && !isFaceOfEarlierPlane(p)) {
                count++;
            }
        }
        return count;
    }

    public int on(int i) {
        if (!isCut(i)) {
            return BAD;
        }
        findBodyCorners();
        return cornersIn(BOX_PLANES + i);
    }

    public boolean needless(int i) {
        if (!isCut(i)) {
            return false;
        }
        int left = BOX_PLANES + i;
        findCorners(BOX_PLANES + cuts, left);
        for (int k = 0; k < found; k++) {
            if (excess(left, k) > 0) {
                return false;
            }
        }
        return true;
    }

    public int hops(int k, int l) {
        findBodyCorners();
        if (!isCorner(k) || !isCorner(l)) {
            return NONE;
        }
        countStepsFrom(k);
        return steps[l];
    }

    public int mostTop(int normal) {
        if (!isNormal(normal)) {
            return BAD;
        }
        findBodyCorners();
        if (found == 0) {
            return NONE;
        }
        int k = farthestCorner(normal);
        int value = valueTop(normal, k);
        return value / commonDivisor(corner[CELLS * k + LAST], value);
    }

    public int mostBottom(int normal) {
        if (!isNormal(normal)) {
            return BAD;
        }
        findBodyCorners();
        if (found == 0) {
            return NONE;
        }
        int k = farthestCorner(normal);
        int value = valueTop(normal, k);
        int under = corner[CELLS * k + LAST];
        return under / commonDivisor(under, value);
    }

    public int whole() {
        int count = 0;
        for (int x = -REACH; x <= REACH; x++) {
            for (int y = -REACH; y <= REACH; y++) {
                for (int z = -REACH; z <= REACH; z++) {
                    if (cutsHold(x, y, z)) {
                        count++;
                    }
                }
            }
        }
        return count;
    }

    public int shadow(int axis) {
        if (!isAxis(axis)) {
            return BAD;
        }
        findBodyCorners();
        if (found == 0) {
            return 0;
        }
        return roundOfShadow(axis == 0 ? 1 : 0, axis == 2 ? 1 : 2);
    }

    public int section(int axis, int k) {
        if (!isAxis(axis) || k < -REACH || k > REACH) {
            return BAD;
        }
        int planes = BOX_PLANES + cuts;
        // These two lie behind the cuts, where the next cut overwrites them.
        setPlaneAcross(planes, axis, 1, k);
        setPlaneAcross(planes + 1, axis, -1, -k);
        findCorners(planes + 2, NO_PLANE);
        return found;
    }

    private static boolean isAxis(int axis) {
        return axis >= 0 && axis < AXES;
    }

    private static boolean isNormal(int normal) {
        return normal >= 0 && normal < NORMALS;
    }

    private boolean isCut(int i) {
        return i >= 0 && i < cuts;
    }

    private boolean isCorner(int k) {
        return k >= 0 && k < found;
    }

    /** The number that a packed normal holds for an axis. */
    private static int part(int normal, int axis) {
        if (axis == 0) {
            return normal % 9 - 4;
        }
        return axis == 1 ? normal / 9 % 9 - 4 : normal / 81 - 4;
    }

    private void setPlaneAcross(int p, int axis, int sign, int d) {
        for (int other = 0; other < AXES; other++) {
            plane[CELLS * p + other] = other == axis ? sign : 0;
        }
        plane[CELLS * p + LAST] = d;
    }

    private void findBodyCorners() {
        findCorners(BOX_PLANES + cuts, NO_PLANE);
    }

    /**
     * Finds the corners of what the first planes cut out, one of them left out: a point of it is a
     * corner iff three of its planes meet there and nowhere else.
     */
    private void findCorners(int planes, int left) {
        found = 0;
        for (int i = 0; i < planes; i++) {
            for (int j = i + 1; j < planes; j++) {
                for (int k = j + 1; k < planes; k++) {
                    boolean counts = i != left && j != left && k != left;
                    if (counts && meetInPoint(i, j, k) && isPointInside(planes, left)) {
                        keepPoint();
                    }
                }
            }
        }
        for (int k = 0; k < found; k++) {
            touched[k] = planesThrough(k, planes);
        }
    }

    /**
     * Puts the point that three planes have in common, in lowest terms, behind the corners; false
     * if there is not just one.
     */
    private boolean meetInPoint(int i, int j, int k) {
        int w = determinant(i, j, k, 0, 1, 2);
        if (w == 0) {
            return false;
        }
        int x = determinant(i, j, k, 3, 1, 2);
        int y = determinant(i, j, k, 0, 3, 2);
        int z = determinant(i, j, k, 0, 1, 3);
        int divisor = commonDivisor(w, x);
        divisor = commonDivisor(divisor, y);
        divisor = commonDivisor(divisor, z);
        if (w < 0) {
            divisor = -divisor;
        }
        int at = CELLS * found;
        corner[at] = x / divisor;
        corner[at + 1] = y / divisor;
        corner[at + 2] = z / divisor;
        corner[at + LAST] = w / divisor;
        return true;
    }

    /** The determinant of the cells a, b and c of the planes i, j and k. */
    private int determinant(int i, int j, int k, int a, int b, int c) {
        int r = CELLS * i;
        int s = CELLS * j;
        int t = CELLS * k;
        return plane[r + a] * (plane[s + b] * plane[t + c] - plane[s + c] * plane[t + b])
                - plane[r + b] * (plane[s + a] * plane[t + c] - plane[s + c] * plane[t + a])
                + plane[r + c] * (plane[s + a] * plane[t + b] - plane[s + b] * plane[t + a]);
    }

    /** The greatest common divisor of a number that is not 0 and another; above 0. */
    private static int commonDivisor(int notZero, int other) {
        int a = notZero;
        int b = other;
        for (int step = 0; step < MOST_STEPS && b != 0; step++) {
            int rest = a % b;
            a = b;
            b = rest;
        }
        return a < 0 ? -a : a;
    }

    private boolean isPointInside(int planes, int left) {
        for (int p = 0; p < planes; p++) {
            if (p != left && excess(p, found) > 0) {
                return false;
            }
        }
        return true;
    }

    /** Above 0 iff corner k is beyond plane p, 0 iff it lies in it. */
    private int excess(int p, int k) {
        int a = CELLS * p;
        int b = CELLS * k;
        return plane[a] * corner[b]
                + plane[a + 1] * corner[b + 1]
                + plane[a + 2] * corner[b + 2]
                - plane[a + LAST] * corner[b + LAST];
    }

    /** Makes the point behind the corners one of them, in its place, unless it is one already. */
    private void keepPoint() {
        if (found >= MOST_CORNERS) {
            return;
        }
        for (int k = 0; k < found; k++) {
            if (order(k, found) == 0) {
                return;
            }
        }
        for (int k = found; k > 0 && order(k - 1, k) > 0; k--) {
            swapCorners(k - 1, k);
        }
        found++;
    }

    private int order(int k, int l) {
        int order = 0;
        for (int axis = 0; axis < AXES && order == 0; axis++) {
            order = orderAlong(k, l, axis);
        }
        return order;
    }

    private int orderAcross(int k, int l, int u, int v) {
        int first = orderAlong(k, l, u);
        return first != 0 ? first : orderAlong(k, l, v);
    }

    private int orderAlong(int k, int l, int axis) {
        int a = CELLS * k;
        int b = CELLS * l;
        return corner[a + axis] * corner[b + LAST] - corner[b + axis] * corner[a + LAST];
    }

    private void swapCorners(int k, int l) {
        for (int cell = 0; cell < CELLS; cell++) {
            int kept = corner[CELLS * k + cell];
            corner[CELLS * k + cell] = corner[CELLS * l + cell];
            corner[CELLS * l + cell] = kept;
        }
    }

    private int planesThrough(int k, int planes) {
        int bits = 0;
        for (int p = 0; p < planes; p++) {
            if (excess(p, k) == 0) {
                bits |= 1 << p;
            }
        }
        return bits;
    }

    /**
     * No three corners of a body are on one line, so three make a plane; and a body without an
     * inside lies whole in one of its own planes.
     */
    private int dimensionOfCorners() {
        if (found < 3) {
            return found - 1;
        }
        int shared = touched[0];
        for (int k = 1; k < found; k++) {
            shared &= touched[k];
        }
        return shared == 0 ? 3 : 2;
    }

    /** Two different corners are neighbours iff no third is in all the planes that both are in. */
    private boolean areNeighbours(int k, int l) {
        int shared = touched[k] & touched[l];
        for (int m = 0; m < found; m++) {
            if (m != k && m != l && (touched[m] & shared) == shared) {
                return false;
            }
        }
        return true;
    }

    private int cornersIn(int p) {
        int count = 0;
        for (int k = 0; k < found; k++) {
            count += touched[k] >> p & 1;
        }
        return count;
    }

    private boolean isFaceOfEarlierPlane(int p) {
        for (int q = 0; q < p; q++) {
            if (haveSameCorners(p, q)) {
                return true;
            }
        }
        return false;
    }

    private boolean haveSameCorners(int p, int q) {
        for (int k = 0; k < found; k++) {
            if ((touched[k] >> p & 1) != (touched[k] >> q & 1)) {
                return false;
            }
        }
        return true;
    }

    /** Fills in the steps to every corner, going outward ring by ring. */
    private void countStepsFrom(int start) {
        for (int k = 0; k < found; k++) {
            steps[k] = k == start ? 0 : NONE;
        }
        for (int ring = 0; ring < found; ring++) {
            for (int k = 0; k < found; k++) {
                if (steps[k] == ring) {
                    reachNeighbours(k);
                }
            }
        }
    }

    private void reachNeighbours(int k) {
        for (int l = 0; l < found; l++) {
            if (steps[l] == NONE && areNeighbours(k, l)) {
                steps[l] = steps[k] + 1;
            }
        }
    }

    /** The value for a normal at corner k, times the bottom of that corner. */
    private int valueTop(int normal, int k) {
        int sum = 0;
        for (int axis = 0; axis < AXES; axis++) {
            sum += part(normal, axis) * corner[CELLS * k + axis];
        }
        return sum;
    }

    /** A corner with the greatest value for a normal: the body has it at one of its corners. */
    private int farthestCorner(int normal) {
        int best = 0;
        int bestValue = valueTop(normal, 0);
        for (int k = 1; k < found; k++) {
            int value = valueTop(normal, k);
            if (value * corner[CELLS * best + LAST] > bestValue * corner[CELLS * k + LAST]) {
                best = k;
                bestValue = value;
            }
        }
        return best;
    }

    private boolean cutsHold(int x, int y, int z) {
        for (int i = 0; i < cuts; i++) {
            int at = CELLS * (BOX_PLANES + i);
            if (plane[at] * x + plane[at + 1] * y + plane[at + 2] * z > plane[at + LAST]) {
                return false;
            }
        }
        return true;
    }

    /** Walks once around the shadow on the axes u and v and counts its corners. */
    private int roundOfShadow(int u, int v) {
        int start = 0;
        for (int k = 1; k < found; k++) {
            if (orderAcross(k, start, u, v) < 0) {
                start = k;
            }
        }
        int at = start;
        for (int count = 1; count < found; count++) {
            at = nextAround(at, u, v);
            if (orderAcross(at, start, u, v) == 0) {
                return count;
            }
        }
        return found;
    }

    /** The next corner of the shadow after one of them; the same if the shadow is one point. */
    private int nextAround(int at, int u, int v) {
        int next = at;
        for (int k = 0; k < found; k++) {
            if (orderAcross(k, at, u, v) != 0 && (next == at || isFartherOut(at, next, k, u, v))) {
                next = k;
            }
        }
        return next;
    }

    /** Whether k, seen from the first corner, is to the right of next, or behind it on one line. */
    private boolean isFartherOut(int at, int next, int k, int u, int v) {
        long side = turn(at, next, k, u, v);
        if (side != 0) {
            return side < 0;
        }
        int toNext = orderAcross(at, next, u, v);
        int toCorner = orderAcross(next, k, u, v);
        return toNext < 0 ? toCorner < 0 : toCorner > 0;
    }

    /** Above 0 iff the way over the three corners, seen on the axes u and v, turns left. */
    private long turn(int k, int l, int m, int u, int v) {
        int a = CELLS * k;
        int b = CELLS * l;
        int c = CELLS * m;
        // Each bracket fits an int, but its product with a third number need not.
        long first = corner[b + v] * corner[c + LAST] - corner[c + v] * corner[b + LAST];
        long second = corner[b + u] * corner[c + LAST] - corner[c + u] * corner[b + LAST];
        long third = corner[b + u] * corner[c + v] - corner[c + u] * corner[b + v];
        return corner[a + u] * first - corner[a + v] * second + corner[a + LAST] * third;
    }
}
