/** Bodies that several tests use, and what they all look at. */
final class Bodies {
    static final int BAD = -1000000;
    static final int FULL = -1000001;
    static final int NONE = -1000002;
    static final int LEAST = Integer.MIN_VALUE;
    static final int MOST = Integer.MAX_VALUE;

    private Bodies() {
    }

    static int packed(int a, int b, int c) {
        return a + 4 + 9 * (b + 4) + 81 * (c + 4);
    }

    /** The normal that has one number for an axis and 0 for the other two. */
    static int along(int axis, int number) {
        return packed(axis == 0 ? number : 0, axis == 1 ? number : 0, axis == 2 ? number : 0);
    }

    /** A body of cuts that are given as rows of a, b, c and d. */
    static HalfspaceBody body(int... rows) {
        HalfspaceBody body = new HalfspaceBody();
        for (int at = 0; at < rows.length; at += 4) {
            int normal = packed(rows[at], rows[at + 1], rows[at + 2]);
            Due.is("cut while making a body", body.cut(normal, rows[at + 3]), at / 4 + 1);
        }
        return body;
    }

    /** Eight cuts: all points with |x| + |y| + |z| <= d. */
    static HalfspaceBody octahedron(int d) {
        return body(
                1, 1, 1, d, 1, 1, -1, d, 1, -1, 1, d, 1, -1, -1, d,
                -1, 1, 1, d, -1, 1, -1, d, -1, -1, 1, d, -1, -1, -1, d);
    }

    static HalfspaceBody octahedron() {
        return octahedron(4);
    }

    /** The box with its eight corners cut off: no body has more corners, edges or faces. */
    static HalfspaceBody clippedBox() {
        return octahedron(20);
    }

    /** The points of the plane x + y + z = 0: six corners. */
    static HalfspaceBody hexagon() {
        return body(1, 1, 1, 0, -1, -1, -1, 0);
    }

    /** The flat square y = 3. */
    static HalfspaceBody square() {
        return body(0, 1, 0, 3, 0, -1, 0, -3);
    }

    /** A square of side 16 at z = -8 and a tip at (0, 0, 0). */
    static HalfspaceBody pyramid() {
        return body(1, 0, 1, 0, -1, 0, 1, 0, 0, 1, 1, 0, 0, -1, 1, 0);
    }

    /** The line x = y = z from corner to corner of the box. */
    static HalfspaceBody diagonal() {
        return body(1, -1, 0, 0, -1, 1, 0, 0, 0, 1, -1, 0, 0, -1, 1, 0);
    }

    /** The part of the line y = z = 0 with from / under <= x <= to / over. */
    static HalfspaceBody line(int from, int under, int to, int over) {
        return body(
                0, 1, 0, 0, 0, -1, 0, 0, 0, 0, 1, 0, 0, 0, -1, 0,
                over, 0, 0, to, -under, 0, 0, -from);
    }

    /** The one point (1/2, 1/3, 1/4). */
    static HalfspaceBody point() {
        return body(2, 0, 0, 1, -2, 0, 0, -1, 0, 3, 0, 1, 0, -3, 0, -1, 0, 0, 4, 1, 0, 0, -4, -1);
    }

    static HalfspaceBody empty() {
        return body(1, 1, 1, -25);
    }

    static void counts(String name, HalfspaceBody body, int corners, int edges, int faces) {
        Due.is(name + " corners", body.corners(), corners);
        Due.is(name + " edges", body.edges(), edges);
        Due.is(name + " faces", body.faces(), faces);
    }

    static void corner(HalfspaceBody body, int k, int x, int y, int z, int w) {
        Due.is("top x of corner " + k, body.top(k, 0), x);
        Due.is("top y of corner " + k, body.top(k, 1), y);
        Due.is("top z of corner " + k, body.top(k, 2), z);
        Due.is("bottom of corner " + k, body.bottom(k), w);
    }

    static void most(HalfspaceBody body, int normal, int over, int under) {
        Due.is("mostTop " + normal, body.mostTop(normal), over);
        Due.is("mostBottom " + normal, body.mostBottom(normal), under);
    }
}
