/** Promise by promise: ordinary inputs, the edges that the document names, and wrong inputs. */
public final class PromisesTest {
    private static final int BAD = -1000000;
    private static final int FULL = -1000001;
    private static final int NONE = -1000002;
    private static final int LEAST = Integer.MIN_VALUE;
    private static final int MOST = Integer.MAX_VALUE;

    private PromisesTest() {
    }

    public static void main(String[] args) {
        newObject();
        cut();
        cutUnpacks();
        drop();
        dimension();
        corners();
        cornersAreInOrder();
        topAndBottom();
        edges();
        faces();
        on();
        needless();
        hops();
        mostTopAndBottom();
        whole();
        shadow();
        section();
        order();
        refusedCallsChangeNothing();
        objectsAreApart();
        Due.end();
    }

    private static int packed(int a, int b, int c) {
        return a + 4 + 9 * (b + 4) + 81 * (c + 4);
    }

    /** A body of cuts that are given as rows of a, b, c and d. */
    private static HalfspaceBody body(int... rows) {
        HalfspaceBody body = new HalfspaceBody();
        for (int at = 0; at < rows.length; at += 4) {
            int normal = packed(rows[at], rows[at + 1], rows[at + 2]);
            Due.is("cut while making a body", body.cut(normal, rows[at + 3]), at / 4 + 1);
        }
        return body;
    }

    /** All points with |x| + |y| + |z| <= 4. */
    private static HalfspaceBody octahedron() {
        return body(
                1, 1, 1, 4, 1, 1, -1, 4, 1, -1, 1, 4, 1, -1, -1, 4,
                -1, 1, 1, 4, -1, 1, -1, 4, -1, -1, 1, 4, -1, -1, -1, 4);
    }

    /** The points of the plane x + y + z = 0: six corners. */
    private static HalfspaceBody hexagon() {
        return body(1, 1, 1, 0, -1, -1, -1, 0);
    }

    /** A square of side 16 at z = -8 and a tip at (0, 0, 0). */
    private static HalfspaceBody pyramid() {
        return body(1, 0, 1, 0, -1, 0, 1, 0, 0, 1, 1, 0, 0, -1, 1, 0);
    }

    /** The line x = y = z from corner to corner of the box. */
    private static HalfspaceBody diagonal() {
        return body(1, -1, 0, 0, -1, 1, 0, 0, 0, 1, -1, 0, 0, -1, 1, 0);
    }

    private static HalfspaceBody empty() {
        return body(1, 1, 1, -25);
    }

    private static void counts(String name, HalfspaceBody body, int corners, int edges, int faces) {
        Due.is(name + " corners", body.corners(), corners);
        Due.is(name + " edges", body.edges(), edges);
        Due.is(name + " faces", body.faces(), faces);
    }

    private static void corner(HalfspaceBody body, int k, int x, int y, int z, int w) {
        Due.is("top x of corner " + k, body.top(k, 0), x);
        Due.is("top y of corner " + k, body.top(k, 1), y);
        Due.is("top z of corner " + k, body.top(k, 2), z);
        Due.is("bottom of corner " + k, body.bottom(k), w);
    }

    private static void newObject() {
        HalfspaceBody body = new HalfspaceBody();
        Due.is("new: drop", body.drop(0), BAD);
        Due.is("new: on", body.on(0), BAD);
        Due.is("new: needless", body.needless(0), false);
        Due.is("new: dimension", body.dimension(), 3);
        counts("new", body, 8, 12, 6);
        Due.is("new: whole", body.whole(), 17 * 17 * 17);
        Due.is("new: first cut", body.cut(0, 0), 1);
    }

    private static void cut() {
        HalfspaceBody body = new HalfspaceBody();
        for (int normal : new int[] {LEAST, -1, 364, 729, MOST}) {
            Due.is("cut with normal " + normal, body.cut(normal, 0), BAD);
        }
        for (int d : new int[] {LEAST, -61, 61, MOST}) {
            Due.is("cut with d " + d, body.cut(1, d), BAD);
        }
        Due.is("least normal, least d", body.cut(0, -60), 1);
        Due.is("greatest normal, greatest d", body.cut(728, 60), 2);
        Due.is("before the middle", body.cut(363, 60), 3);
        Due.is("after the middle", body.cut(365, -60), 4);
        Due.is("the same once more", body.cut(365, -60), 5);
        Due.is("after that", body.cut(1, 0), 6);
        Due.is("after that", body.cut(1, 0), 7);
        Due.is("BAD with one place left", body.cut(364, 0), BAD);
        Due.is("the eighth", body.cut(1, 0), 8);
        Due.is("a ninth", body.cut(1, 0), FULL);
        Due.is("full is tested before the normal", body.cut(364, 0), FULL);
        Due.is("full is tested before the normal", body.cut(-1, 0), FULL);
        Due.is("full is tested before d", body.cut(1, 61), FULL);
        Due.is("drop from the full", body.drop(7), 7);
        Due.is("no longer full", body.cut(1, 61), BAD);
        Due.is("no longer full", body.cut(1, 60), 8);
    }

    private static void cutUnpacks() {
        for (int normal = 0; normal < 729; normal++) {
            int a = normal % 9 - 4;
            int b = normal / 9 % 9 - 4;
            int c = normal / 81 - 4;
            if (normal == 364) {
                continue;
            }
            HalfspaceBody body = new HalfspaceBody();
            body.cut(normal, 3);
            int edge = 8 * (Math.abs(a) + Math.abs(b) + Math.abs(c));
            Due.is("cut " + normal + " holds with equality", body.mostTop(normal), 3);
            Due.is("cut " + normal + " leaves the other side", body.mostTop(728 - normal), edge);
            // The greatest values alone would not tell two swapped numbers of a normal apart.
            body.cut(packed(0, 0, 1), 0);
            body.cut(packed(0, 0, -1), 0);
            int whole = 0;
            for (int x = -8; x <= 8; x++) {
                for (int y = -8; y <= 8; y++) {
                    whole += a * x + b * y <= 3 ? 1 : 0;
                }
            }
            Due.is("cut " + normal + " at z = 0", body.whole(), whole);
        }
    }

    private static void drop() {
        HalfspaceBody body = body(1, 0, 0, 1, 0, 1, 0, 2, 0, 0, 1, 3);
        for (int i : new int[] {LEAST, -1, 3, 8, MOST}) {
            Due.is("drop " + i, body.drop(i), BAD);
        }
        corner(body, 7, 1, 2, 3, 1);
        Due.is("drop the first", body.drop(0), 2);
        corner(body, 7, 8, 2, 3, 1);
        Due.is("drop what was the third", body.drop(1), 1);
        corner(body, 7, 8, 2, 8, 1);
        Due.is("on what was the second", body.on(0), 4);
        Due.is("none there", body.drop(1), BAD);
        Due.is("drop the last one", body.drop(0), 0);
        counts("all dropped", body, 8, 12, 6);
        Due.is("none left", body.drop(0), BAD);

        HalfspaceBody middle = body(1, 0, 0, 1, 0, 1, 0, 2, 0, 0, 1, 3, -1, 0, 0, 4);
        Due.is("drop from the middle", middle.drop(1), 3);
        corner(middle, 0, -4, -8, -8, 1);
        corner(middle, 7, 1, 8, 3, 1);
        Due.is("a cut after a drop", middle.cut(packed(0, -1, 0), 5), 4);
        corner(middle, 0, -4, -5, -8, 1);
        Due.is("drop the end", middle.drop(3), 3);
        corner(middle, 0, -4, -8, -8, 1);
    }

    private static void dimension() {
        Due.is("dimension of a tilted plane", hexagon().dimension(), 2);
        Due.is("dimension of a pyramid", pyramid().dimension(), 3);
        Due.is("dimension of a diagonal", diagonal().dimension(), 1);
        Due.is("dimension of nothing", empty().dimension(), -1);
        Due.is("a corner of the box", body(1, 1, 1, -24).dimension(), 0);
        Due.is("an edge of the box", body(1, 1, 0, -16).dimension(), 1);
        Due.is("a side of the box", body(1, 0, 0, -8).dimension(), 2);
        Due.is("a little more than the corner", body(1, 1, 1, -23).dimension(), 3);
        Due.is("beyond a side of the box", body(4, 0, 0, -33).dimension(), -1);
        Due.is("a thin slice", body(4, 0, 0, 1, -4, 0, 0, 0).dimension(), 3);
        Due.is("no slice", body(4, 0, 0, 1, -4, 0, 0, -2).dimension(), -1);
        Due.is("a triangle", body(1, 1, 1, -23, -1, -1, -1, 23).dimension(), 2);
    }

    private static void corners() {
        Due.is("corners of an octahedron", octahedron().corners(), 6);
        Due.is("corners of a pyramid", pyramid().corners(), 5);
        Due.is("corners of a hexagon", hexagon().corners(), 6);
        Due.is("corners of a diagonal", diagonal().corners(), 2);
        Due.is("corners of a point", body(1, 1, 1, -24).corners(), 1);
        Due.is("corners of nothing", empty().corners(), 0);
        Due.is("a cut through corners", body(1, 1, 0, 0).corners(), 6);
        Due.is("a cut that only touches", body(1, 1, 1, 24).corners(), 8);
        // All eight corners of the box cut off, and the eight cuts do not meet: 24 corners.
        HalfspaceBody most =
                body(
                        1, 1, 1, 20, 1, 1, -1, 20, 1, -1, 1, 20, 1, -1, -1, 20,
                        -1, 1, 1, 20, -1, 1, -1, 20, -1, -1, 1, 20, -1, -1, -1, 20);
        counts("the box with its corners cut off", most, 24, 36, 14);
        corner(most, 0, -8, -8, -4, 1);
        corner(most, 23, 8, 8, 4, 1);
        Due.is("there is no more", most.bottom(24), NONE);
    }

    private static void cornersAreInOrder() {
        HalfspaceBody box = new HalfspaceBody();
        for (int k = 0; k < 8; k++) {
            corner(box, k, k < 4 ? -8 : 8, k / 2 % 2 == 0 ? -8 : 8, k % 2 == 0 ? -8 : 8, 1);
        }
        HalfspaceBody steps = body(3, 0, 0, 2, 0, 0, 1, -8);
        corner(steps, 0, -8, -8, -8, 1);
        corner(steps, 1, -8, 8, -8, 1);
        corner(steps, 2, 2, -24, -24, 3);
        corner(steps, 3, 2, 24, -24, 3);
        // x = 3/4 - y/4 at z = -8: -5/4 for y = 8 and 11/4 for y = -8.
        HalfspaceBody slope = body(4, 1, 0, 3, 0, 0, 1, -8);
        corner(slope, 0, -8, -8, -8, 1);
        corner(slope, 1, -8, 8, -8, 1);
        corner(slope, 2, -5, 32, -32, 4);
        corner(slope, 3, 11, -32, -32, 4);
        // On the line y = z = 0 x goes from -2/3 to -1/2.
        HalfspaceBody line =
                body(0, 1, 0, 0, 0, -1, 0, 0, 0, 0, 1, 0, 0, 0, -1, 0, 2, 0, 0, -1, -3, 0, 0, 2);
        corner(line, 0, -2, 0, 0, 3);
        corner(line, 1, -1, 0, 0, 2);
        // Equal x and y, and z from 1/4 to 1/3.
        HalfspaceBody upright =
                body(1, 0, 0, 1, -1, 0, 0, -1, 0, 1, 0, 1, 0, -1, 0, -1, 0, 0, 3, 1, 0, 0, -4, -1);
        corner(upright, 0, 4, 4, 1, 4);
        corner(upright, 1, 3, 3, 1, 3);
    }

    private static void topAndBottom() {
        HalfspaceBody body = body(2, 0, 0, 1, 0, 3, 0, 1, 0, 0, 4, 1);
        corner(body, 7, 6, 4, 3, 12);
        corner(body, 0, -8, -8, -8, 1);
        corner(body, 1, -32, -32, 1, 4);
        corner(body, 2, -24, 1, -24, 3);
        corner(body, 4, 1, -16, -16, 2);
        HalfspaceBody common = body(4, 0, 0, 2, 0, 4, 0, -2, 0, 0, 2, 6);
        corner(common, 7, 1, -1, 6, 2);
        HalfspaceBody zero = body(3, 0, 0, 0, 0, 3, 0, 0, 0, 0, 3, 0);
        corner(zero, 7, 0, 0, 0, 1);
        for (int axis : new int[] {LEAST, -1, 3, MOST}) {
            Due.is("top on axis " + axis, body.top(0, axis), BAD);
        }
        for (int k : new int[] {LEAST, -1, 8, MOST}) {
            Due.is("top of corner " + k, body.top(k, 0), NONE);
            Due.is("top of corner " + k, body.top(k, 2), NONE);
            Due.is("bottom of corner " + k, body.bottom(k), NONE);
        }
        Due.is("top of nothing", empty().top(0, 0), NONE);
        Due.is("bottom of nothing", empty().bottom(0), NONE);
    }

    private static void edges() {
        Due.is("edges of an octahedron", octahedron().edges(), 12);
        Due.is("edges of a pyramid", pyramid().edges(), 8);
        Due.is("edges of a hexagon", hexagon().edges(), 6);
        Due.is("edges of a diagonal", diagonal().edges(), 1);
        Due.is("edges of a point", body(1, 1, 1, -24).edges(), 0);
        Due.is("edges of nothing", empty().edges(), 0);
        Due.is("edges of a side of the box", body(1, 0, 0, -8).edges(), 4);
        Due.is("edges of an edge of the box", body(1, 1, 0, -16).edges(), 1);
        Due.is("edges of a corner of the box", body(1, 1, 1, -23).edges(), 6);
        Due.is("edges of a wedge", body(1, 1, 0, 0).edges(), 9);
        Due.is("edges with a cut that only touches", body(1, 1, 0, 16).edges(), 12);
    }

    private static void faces() {
        Due.is("faces of an octahedron", octahedron().faces(), 8);
        Due.is("faces of a pyramid", pyramid().faces(), 5);
        Due.is("faces of a hexagon", hexagon().faces(), 1);
        Due.is("faces of a diagonal", diagonal().faces(), 0);
        Due.is("faces of a point", body(1, 1, 1, -24).faces(), 0);
        Due.is("faces of nothing", empty().faces(), 0);
        Due.is("faces of a side of the box", body(1, 0, 0, -8).faces(), 1);
        Due.is("faces of a wedge", body(1, 1, 0, 0).faces(), 5);
        Due.is("a cut that touches a corner", body(1, 1, 1, 24).faces(), 6);
        Due.is("a cut that touches an edge", body(1, 1, 0, 16).faces(), 6);
        Due.is("a cut in a plane of the box", body(1, 0, 0, 8).faces(), 6);
        Due.is("the same with greater numbers", body(2, 0, 0, 16).faces(), 6);
        Due.is("two cuts with one plane", body(1, 1, 1, 2, 2, 2, 2, 4).faces(), 7);
        Due.is("two cuts behind each other", body(1, 1, 1, 2, 1, 1, 1, 3).faces(), 7);
        Due.is("a cut beyond the box", body(1, 0, 0, 9).faces(), 6);
    }

    private static void on() {
        HalfspaceBody eight = octahedron();
        for (int i = 0; i < 8; i++) {
            Due.is("on of an octahedron", eight.on(i), 3);
        }
        for (int i : new int[] {LEAST, -1, 8, MOST}) {
            Due.is("on " + i, eight.on(i), BAD);
        }
        Due.is("on a cut through the box", body(1, 1, 1, 0).on(0), 6);
        Due.is("on a cut at a corner", body(1, 1, 1, 24).on(0), 1);
        Due.is("on a cut at an edge", body(1, 1, 0, 16).on(0), 2);
        Due.is("on a side of the box", body(1, 0, 0, 8).on(0), 4);
        Due.is("on a cut beyond the box", body(1, 0, 0, 9).on(0), 0);
        Due.is("on, of nothing", empty().on(0), 0);
        Due.is("on, of nothing, none there", empty().on(1), BAD);
        HalfspaceBody thin = hexagon();
        Due.is("on of a hexagon", thin.on(0), 6);
        Due.is("on of its other cut", thin.on(1), 6);
        Due.is("on after the last", thin.on(2), BAD);
    }

    private static void needless() {
        HalfspaceBody eight = octahedron();
        for (int i = 0; i < 8; i++) {
            Due.is("a face of an octahedron is needless", eight.needless(i), false);
        }
        for (int i : new int[] {LEAST, -1, 8, MOST}) {
            Due.is("needless " + i, eight.needless(i), false);
        }
        Due.is("a cut that takes a corner off", body(1, 1, 1, 23).needless(0), false);
        Due.is("a cut that touches a corner", body(1, 1, 1, 24).needless(0), true);
        Due.is("a cut that touches a side", body(1, 0, 0, 8).needless(0), true);
        Due.is("a cut beyond the box", body(1, 0, 0, 9).needless(0), true);
        HalfspaceBody twice = body(1, 1, 1, 2, 2, 2, 2, 4);
        Due.is("the first of two with one plane", twice.needless(0), true);
        Due.is("the second of two with one plane", twice.needless(1), true);
        Due.is("drop one of them", twice.drop(0), 1);
        Due.is("the one that is left", twice.needless(0), false);
        HalfspaceBody behind = body(1, 1, 1, 2, 1, 1, 1, 3);
        Due.is("the one in front", behind.needless(0), false);
        Due.is("the one behind", behind.needless(1), true);
        Due.is("what makes a body empty", empty().needless(0), false);
        HalfspaceBody nothing = body(1, 0, 0, -9, 0, 1, 0, 0, 0, 0, 1, -9);
        Due.is("empty without it too", nothing.needless(0), true);
        Due.is("empty without it too", nothing.needless(1), true);
        Due.is("empty without it too", nothing.needless(2), true);
        HalfspaceBody thin = hexagon();
        Due.is("one half of a plane", thin.needless(0), false);
        Due.is("the other half of a plane", thin.needless(1), false);
    }

    private static void hops() {
        HalfspaceBody box = new HalfspaceBody();
        for (int k = 0; k < 8; k++) {
            for (int l = 0; l < 8; l++) {
                Due.is("hops in the box", box.hops(k, l), Integer.bitCount(k ^ l));
            }
        }
        for (int k : new int[] {LEAST, -1, 8, MOST}) {
            Due.is("hops from " + k, box.hops(k, 0), NONE);
            Due.is("hops to " + k, box.hops(0, k), NONE);
            Due.is("hops from and to " + k, box.hops(k, k), NONE);
        }
        HalfspaceBody eight = octahedron();
        // The order is -x, -y, -z, z, y, x, so each is opposite to 5 - k.
        for (int k = 0; k < 6; k++) {
            for (int l = 0; l < 6; l++) {
                Due.is("hops in an octahedron", eight.hops(k, l), k == l ? 0 : k + l == 5 ? 2 : 1);
            }
        }
        // In order: (-8,0,8) (-8,8,0) (0,-8,8) (0,8,-8) (8,-8,0) (8,0,-8).
        HalfspaceBody six = hexagon();
        int[] around = {0, 1, 3, 5, 4, 2};
        for (int k = 0; k < 6; k++) {
            for (int l = 0; l < 6; l++) {
                int way = Math.abs(k - l);
                int due = Math.min(way, 6 - way);
                Due.is("hops around a hexagon", six.hops(around[k], around[l]), due);
            }
        }
        Due.is("hops along a diagonal", diagonal().hops(1, 0), 1);
        Due.is("hops in a point", body(1, 1, 1, -24).hops(0, 0), 0);
        Due.is("hops in nothing", empty().hops(0, 0), NONE);
    }

    private static void most(HalfspaceBody body, int normal, int over, int under) {
        Due.is("mostTop " + normal, body.mostTop(normal), over);
        Due.is("mostBottom " + normal, body.mostBottom(normal), under);
    }

    private static void mostTopAndBottom() {
        HalfspaceBody box = new HalfspaceBody();
        for (int normal : new int[] {LEAST, -1, 729, MOST}) {
            most(box, normal, BAD, BAD);
            most(empty(), normal, BAD, BAD);
        }
        most(box, 0, 96, 1);
        most(box, 728, 96, 1);
        most(box, 364, 0, 1);
        most(box, packed(3, -2, 1), 48, 1);
        most(empty(), 0, NONE, NONE);
        most(empty(), 364, NONE, NONE);
        HalfspaceBody body = body(2, 0, 0, 1, 0, 3, 0, -1, 0, 0, 4, 1);
        most(body, packed(1, 0, 0), 1, 2);
        most(body, packed(4, 0, 0), 2, 1);
        most(body, packed(0, 1, 0), -1, 3);
        most(body, packed(0, 3, 0), -1, 1);
        most(body, packed(0, 0, 2), 1, 2);
        most(body, packed(1, 1, 1), 5, 12);
        most(body, packed(2, 3, 0), 0, 1);
        most(body, packed(1, 0, -1), 17, 2);
        most(body, 364, 0, 1);
        most(body(1, 0, 0, -8), packed(1, 0, 0), -8, 1);
        // Equal tops, other bottoms: x is 1/4 or 1/3 on the line y = z = 0.
        HalfspaceBody line =
                body(0, 1, 0, 0, 0, -1, 0, 0, 0, 0, 1, 0, 0, 0, -1, 0, 3, 0, 0, 1, -4, 0, 0, -1);
        most(line, packed(1, 0, 0), 1, 3);
        most(line, packed(-1, 0, 0), -1, 4);
    }

    private static void whole() {
        Due.is("whole of an octahedron", octahedron().whole(), 129);
        Due.is("whole of a hexagon", hexagon().whole(), 217);
        Due.is("whole of a diagonal", diagonal().whole(), 17);
        Due.is("whole of a pyramid", pyramid().whole(), 969);
        Due.is("whole of nothing", empty().whole(), 0);
        Due.is("whole of a corner", body(1, 1, 1, -24).whole(), 1);
        Due.is("whole of a side", body(0, 1, 0, -8).whole(), 289);
        Due.is("whole up to a fraction above", body(2, 0, 0, 1).whole(), 9 * 289);
        Due.is("whole up to a fraction below", body(2, 0, 0, -1).whole(), 8 * 289);
        // In the side x = 8 the cut is y + 2 z <= -4.
        HalfspaceBody side = body(1, 2, 4, 0, -1, 0, 0, -8);
        Due.is("whole of a side with an uneven cut", side.whole(), 115);
        Due.is("a third cut", side.cut(packed(0, -1, 0), -4), 3);
        Due.is("whole of its part from y = 4", side.whole(), 19);
        Due.is("drop it", side.drop(2), 2);
        Due.is("another third cut", side.cut(packed(0, 0, -1), -1), 3);
        Due.is("whole of its part from z = 1", side.whole(), 4);
        HalfspaceBody half = body(0, 0, 2, 1, 0, 0, -2, -1);
        Due.is("a plane between whole points", half.whole(), 0);
        Due.is("that plane is there", half.dimension(), 2);
    }

    private static void shadow() {
        HalfspaceBody line = body(0, 1, 0, 0, 0, -1, 0, 0, 0, 0, 1, 0, 0, 0, -1, 0);
        HalfspaceBody flat = body(0, 1, 0, 0, 0, -1, 0, 0);
        // A body that is long in x, shorter in y and shortest in z, with one corner cut off.
        HalfspaceBody brick = body(0, 0, 1, 2, 0, 1, 0, 5, 1, 0, 1, 9);
        int[] ofLine = {1, 2, 2};
        int[] ofFlat = {2, 4, 2};
        int[] ofBrick = {4, 5, 4};
        for (int axis = 0; axis < 3; axis++) {
            Due.is("shadow of the box", new HalfspaceBody().shadow(axis), 4);
            Due.is("shadow of an octahedron", octahedron().shadow(axis), 4);
            Due.is("shadow of a hexagon", hexagon().shadow(axis), 6);
            Due.is("shadow of a diagonal", diagonal().shadow(axis), 2);
            Due.is("shadow of a point", body(1, 1, 1, -24).shadow(axis), 1);
            Due.is("shadow of nothing", empty().shadow(axis), 0);
            Due.is("shadow of a line", line.shadow(axis), ofLine[axis]);
            Due.is("shadow of a flat square", flat.shadow(axis), ofFlat[axis]);
            Due.is("shadow of a brick", brick.shadow(axis), ofBrick[axis]);
        }
        HalfspaceBody tip = pyramid();
        Due.is("shadow of a pyramid from the side", tip.shadow(0), 3);
        Due.is("shadow of a pyramid from the front", tip.shadow(1), 3);
        Due.is("shadow of a pyramid from above", tip.shadow(2), 4);
        // A ridge from x = -4 to 4 at z = 0: from above its ends are inside the shadow.
        HalfspaceBody leaning = body(2, 0, 1, 8, 0, 1, 1, 0, 0, -1, 1, 0, -2, 0, 1, 8);
        Due.is("a ridge seen from above", leaning.shadow(2), 4);
        Due.is("a ridge seen from its end", leaning.shadow(0), 3);
        Due.is("a ridge seen from its side", leaning.shadow(1), 4);
        HalfspaceBody wedge = body(1, 0, 1, 0);
        Due.is("a wedge seen from above", wedge.shadow(2), 4);
        Due.is("a wedge seen from its end", wedge.shadow(1), 3);
        for (int axis : new int[] {LEAST, -1, 3, MOST}) {
            Due.is("shadow along " + axis, tip.shadow(axis), BAD);
            Due.is("shadow of nothing along " + axis, empty().shadow(axis), BAD);
        }
    }

    private static void section() {
        HalfspaceBody eight = octahedron();
        for (int axis = 0; axis < 3; axis++) {
            for (int k = -8; k <= 8; k++) {
                int size = Math.abs(k);
                Due.is("section of the box", new HalfspaceBody().section(axis, k), 4);
                Due.is("section", eight.section(axis, k), size < 4 ? 4 : size == 4 ? 1 : 0);
                Due.is("section of a diagonal", diagonal().section(axis, k), 1);
                Due.is("section of nothing", empty().section(axis, k), 0);
            }
            Due.is("section of a hexagon", hexagon().section(axis, 3), 2);
            Due.is("section of a hexagon at its end", hexagon().section(axis, 8), 2);
        }
        Due.is("section of a cut corner", body(1, 1, 1, 20).section(0, 8), 5);
        Due.is("section before a cut corner", body(1, 1, 1, 20).section(0, 4), 4);
        HalfspaceBody tip = pyramid();
        Due.is("section at the tip", tip.section(2, 0), 1);
        Due.is("section above the tip", tip.section(2, 1), 0);
        Due.is("section below the tip", tip.section(2, -1), 4);
        Due.is("section at the square", tip.section(2, -8), 4);
        Due.is("section through the tip", tip.section(0, 0), 3);
        Due.is("section beside the tip", tip.section(0, 3), 4);
        Due.is("section at an edge", tip.section(1, 8), 2);
        HalfspaceBody flat = body(0, 1, 0, 3, 0, -1, 0, -3);
        Due.is("section that is the body", flat.section(1, 3), 4);
        Due.is("section beside the body", flat.section(1, 2), 0);
        Due.is("section across a flat body", flat.section(0, 2), 2);
        HalfspaceBody half = body(2, 0, 0, 1, -2, 0, 0, -1);
        Due.is("section beside a fraction", half.section(0, 0), 0);
        Due.is("section beside a fraction", half.section(0, 1), 0);
        for (int wrong : new int[] {LEAST, -9, 9, MOST}) {
            Due.is("section along " + wrong, tip.section(wrong, 0), BAD);
            Due.is("section at " + wrong, tip.section(0, wrong), BAD);
            Due.is("section of nothing along " + wrong, empty().section(wrong, 0), BAD);
            Due.is("section of nothing at " + wrong, empty().section(2, wrong), BAD);
        }
        Due.is("section along -1", tip.section(-1, 0), BAD);
        Due.is("section along 3", tip.section(3, 0), BAD);
        counts("a pyramid after its sections", tip, 5, 8, 5);
        Due.is("a full body after a section", eight.cut(1, 0), FULL);
        counts("an octahedron after its sections", eight, 6, 12, 8);
        Due.is("a cut after a section", flat.cut(packed(1, 0, 0), 0), 3);
        Due.is("it is as it should be", flat.top(3, 0), 0);
    }

    private static void order() {
        Due.is("top: axis before corner", new HalfspaceBody().top(8, 3), BAD);
        Due.is("top: axis before corner", new HalfspaceBody().top(-1, -1), BAD);
        Due.is("top: axis before an empty body", empty().top(0, 3), BAD);
        Due.is("top: then the corner", empty().top(0, 2), NONE);
        Due.is("shadow: axis of an empty body", empty().shadow(3), BAD);
        Due.is("section: axis of an empty body", empty().section(3, 0), BAD);
        Due.is("section: k of an empty body", empty().section(0, -9), BAD);
        Due.is("mostTop: normal of an empty body", empty().mostTop(729), BAD);
        Due.is("mostBottom: normal of an empty body", empty().mostBottom(-1), BAD);
    }

    /** All there is to see of a body with few corners, in one number. */
    private static long print(HalfspaceBody body) {
        long sum = body.dimension() + 5L * body.corners() + 11L * body.whole();
        sum = 31 * sum + body.edges() + 7L * body.faces();
        for (int k = 0; k < body.corners(); k++) {
            sum = 31 * sum + body.bottom(k);
            for (int axis = 0; axis < 3; axis++) {
                sum = 31 * sum + body.top(k, axis);
            }
        }
        for (int i = 0; i < 8; i++) {
            sum = 31 * sum + body.on(i) + (body.needless(i) ? 1 : 0);
        }
        return sum;
    }

    private static void refuse(HalfspaceBody body) {
        body.cut(364, 5);
        body.cut(729, 5);
        body.cut(1, 61);
        body.drop(-1);
        body.drop(8);
        body.top(0, 3);
        body.top(99, 0);
        body.bottom(99);
        body.on(8);
        body.needless(8);
        body.hops(0, 99);
        body.mostTop(729);
        body.mostBottom(-1);
        body.shadow(3);
        body.section(0, 9);
        body.section(3, 0);
    }

    private static void refusedCallsChangeNothing() {
        HalfspaceBody[] bodies = {
            new HalfspaceBody(), octahedron(), hexagon(), pyramid(), diagonal(), empty()
        };
        for (HalfspaceBody body : bodies) {
            long before = print(body);
            Due.is("asking changes nothing", print(body), before);
            refuse(body);
            Due.is("refused calls change nothing", print(body), before);
        }
        HalfspaceBody full = octahedron();
        long before = print(full);
        full.cut(packed(1, 0, 0), 0);
        Due.is("a cut that is refused changes nothing", print(full), before);
        Due.is("8 cuts are there", full.drop(7), 7);
    }

    private static void objectsAreApart() {
        HalfspaceBody one = new HalfspaceBody();
        HalfspaceBody other = new HalfspaceBody();
        Due.is("a cut of one", one.cut(packed(1, 0, 0), 0), 1);
        Due.is("the other has none", other.on(0), BAD);
        Due.is("the other is whole", other.whole(), 4913);
        Due.is("the one is cut", one.whole(), 9 * 289);
    }
}
