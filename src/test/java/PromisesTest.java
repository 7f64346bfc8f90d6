/** Promise by promise: ordinary calls, with answers that were worked out by hand. */
public final class PromisesTest {
    private PromisesTest() {
    }

    public static void main(String[] args) {
        newObject();
        cut();
        cutUnpacks();
        drop();
        dimension();
        corners();
        cornersAreInOrder();
        topAndBottom();
        edges();
        faces();
        on();
        needless();
        hops();
        mostTopAndBottom();
        whole();
        shadow();
        section();
        objectsAreApart();
        exampleOfReadme();
        Due.end();
    }

    private static void newObject() {
        HalfspaceBody body = new HalfspaceBody();
        Due.is("new: dimension", body.dimension(), 3);
        Bodies.counts("new", body, 8, 12, 6);
        Due.is("new: whole", body.whole(), 17 * 17 * 17);
    }

    private static void cut() {
        HalfspaceBody body = new HalfspaceBody();
        Due.is("the first", body.cut(Bodies.packed(1, 0, 0), 5), 1);
        Due.is("the second", body.cut(Bodies.packed(0, 2, 0), 3), 2);
        Due.is("the third", body.cut(Bodies.packed(0, 0, -1), -4), 3);
        Bodies.corner(body, 0, -8, -8, 4, 1);
        Bodies.corner(body, 7, 10, 3, 16, 2);
        Due.is("the third once more", body.cut(Bodies.packed(0, 0, -1), -4), 4);
        Bodies.counts("after one cut twice", body, 8, 12, 6);
    }

    private static void cutUnpacks() {
        for (int normal = 0; normal < 729; normal++) {
            int a = normal % 9 - 4;
            int b = normal / 9 % 9 - 4;
            int c = normal / 81 - 4;
            if (normal == 364) {
                continue;
            }
            HalfspaceBody body = new HalfspaceBody();
            body.cut(normal, 3);
            int edge = 8 * (Math.abs(a) + Math.abs(b) + Math.abs(c));
            Due.is("cut " + normal + " holds with equality", body.mostTop(normal), 3);
            Due.is("cut " + normal + " leaves the other side", body.mostTop(728 - normal), edge);
            // The greatest values alone would not tell two swapped numbers of a normal apart.
            body.cut(Bodies.packed(0, 0, 1), 0);
            body.cut(Bodies.packed(0, 0, -1), 0);
            int whole = 0;
            for (int x = -8; x <= 8; x++) {
                for (int y = -8; y <= 8; y++) {
                    whole += a * x + b * y <= 3 ? 1 : 0;
                }
            }
            Due.is("cut " + normal + " at z = 0", body.whole(), whole);
        }
    }

    private static void drop() {
        HalfspaceBody body = Bodies.body(1, 0, 0, 1, 0, 1, 0, 2, 0, 0, 1, 3);
        Bodies.corner(body, 7, 1, 2, 3, 1);
        Due.is("drop the first", body.drop(0), 2);
        Bodies.corner(body, 7, 8, 2, 3, 1);
        Due.is("drop what was the third", body.drop(1), 1);
        Bodies.corner(body, 7, 8, 2, 8, 1);
        Due.is("on what was the second", body.on(0), 4);
        Due.is("drop the last one", body.drop(0), 0);
        Bodies.counts("all dropped", body, 8, 12, 6);

        HalfspaceBody middle = Bodies.body(1, 0, 0, 1, 0, 1, 0, 2, 0, 0, 1, 3, -1, 0, 0, 4);
        Due.is("drop from the middle", middle.drop(1), 3);
        Bodies.corner(middle, 0, -4, -8, -8, 1);
        Bodies.corner(middle, 7, 1, 8, 3, 1);
        Due.is("a cut after a drop", middle.cut(Bodies.packed(0, -1, 0), 5), 4);
        Bodies.corner(middle, 0, -4, -5, -8, 1);
        Due.is("drop the end", middle.drop(3), 3);
        Bodies.corner(middle, 0, -4, -8, -8, 1);
    }

    private static void dimension() {
        Due.is("dimension of a pyramid", Bodies.pyramid().dimension(), 3);
        Due.is("dimension of an octahedron", Bodies.octahedron().dimension(), 3);
        Due.is("dimension of a hexagon", Bodies.hexagon().dimension(), 2);
        Due.is("dimension of a diagonal", Bodies.diagonal().dimension(), 1);
        Due.is("dimension of a point", Bodies.point().dimension(), 0);
        Due.is("dimension of nothing", Bodies.empty().dimension(), -1);
    }

    private static void corners() {
        Due.is("corners of an octahedron", Bodies.octahedron().corners(), 6);
        Due.is("corners of a pyramid", Bodies.pyramid().corners(), 5);
        Due.is("corners of a hexagon", Bodies.hexagon().corners(), 6);
        Due.is("corners of a wedge", Bodies.body(1, 1, 0, 0).corners(), 6);
        Due.is("corners of a box with one cut off", Bodies.body(1, 1, 1, 20).corners(), 10);
    }

    private static void cornersAreInOrder() {
        HalfspaceBody box = new HalfspaceBody();
        for (int k = 0; k < 8; k++) {
            Bodies.corner(box, k, k < 4 ? -8 : 8, k / 2 % 2 == 0 ? -8 : 8, k % 2 == 0 ? -8 : 8, 1);
        }
        HalfspaceBody steps = Bodies.body(3, 0, 0, 2, 0, 0, 1, -8);
        Bodies.corner(steps, 0, -8, -8, -8, 1);
        Bodies.corner(steps, 1, -8, 8, -8, 1);
        Bodies.corner(steps, 2, 2, -24, -24, 3);
        Bodies.corner(steps, 3, 2, 24, -24, 3);
    }

    private static void topAndBottom() {
        HalfspaceBody body = Bodies.body(2, 0, 0, 1, 0, 3, 0, 1, 0, 0, 4, 1);
        Bodies.corner(body, 0, -8, -8, -8, 1);
        Bodies.corner(body, 1, -32, -32, 1, 4);
        Bodies.corner(body, 2, -24, 1, -24, 3);
        Bodies.corner(body, 4, 1, -16, -16, 2);
        Bodies.corner(body, 7, 6, 4, 3, 12);
    }

    private static void edges() {
        Due.is("edges of an octahedron", Bodies.octahedron().edges(), 12);
        Due.is("edges of a pyramid", Bodies.pyramid().edges(), 8);
        Due.is("edges of a hexagon", Bodies.hexagon().edges(), 6);
        Due.is("edges of a wedge", Bodies.body(1, 1, 0, 0).edges(), 9);
        Due.is("edges of a box with one corner cut off", Bodies.body(1, 1, 1, 20).edges(), 15);
    }

    private static void faces() {
        Due.is("faces of an octahedron", Bodies.octahedron().faces(), 8);
        Due.is("faces of a pyramid", Bodies.pyramid().faces(), 5);
        Due.is("faces of a hexagon", Bodies.hexagon().faces(), 1);
        Due.is("faces of a wedge", Bodies.body(1, 1, 0, 0).faces(), 5);
        Due.is("two cuts behind each other", Bodies.body(1, 1, 1, 2, 1, 1, 1, 3).faces(), 7);
    }

    private static void on() {
        HalfspaceBody eight = Bodies.octahedron();
        for (int i = 0; i < 8; i++) {
            Due.is("on of an octahedron", eight.on(i), 3);
        }
        Due.is("on a cut through the box", Bodies.body(1, 1, 1, 0).on(0), 6);
        Due.is("on a side of a pyramid", Bodies.pyramid().on(2), 3);
        HalfspaceBody two = Bodies.body(1, 1, 1, 20, 1, 0, 0, 0);
        Due.is("on a cut that another one hides", two.on(0), 0);
        Due.is("on that other one", two.on(1), 4);
    }

    private static void needless() {
        for (int i = 0; i < 8; i++) {
            Due.is("a face of the clipped box", Bodies.clippedBox().needless(i), false);
        }
        HalfspaceBody behind = Bodies.body(1, 1, 1, 2, 1, 1, 1, 3, 0, 1, 0, 5);
        Due.is("the one in front", behind.needless(0), false);
        Due.is("the one behind", behind.needless(1), true);
        Due.is("one beside them", behind.needless(2), false);
        HalfspaceBody thin = Bodies.hexagon();
        Due.is("one half of a plane", thin.needless(0), false);
        Due.is("the other half of a plane", thin.needless(1), false);
    }

    private static void hops() {
        HalfspaceBody box = new HalfspaceBody();
        for (int k = 0; k < 8; k++) {
            for (int l = 0; l < 8; l++) {
                Due.is("hops in the box", box.hops(k, l), Integer.bitCount(k ^ l));
            }
        }
        HalfspaceBody eight = Bodies.octahedron();
        // The order is -x, -y, -z, z, y, x, so each is opposite to 5 - k.
        for (int k = 0; k < 6; k++) {
            for (int l = 0; l < 6; l++) {
                Due.is("hops in an octahedron", eight.hops(k, l), k == l ? 0 : k + l == 5 ? 2 : 1);
            }
        }
        // In order: (-8,0,8) (-8,8,0) (0,-8,8) (0,8,-8) (8,-8,0) (8,0,-8).
        HalfspaceBody six = Bodies.hexagon();
        int[] around = {0, 1, 3, 5, 4, 2};
        for (int k = 0; k < 6; k++) {
            for (int l = 0; l < 6; l++) {
                int way = Math.abs(k - l);
                int due = Math.min(way, 6 - way);
                Due.is("hops around a hexagon", six.hops(around[k], around[l]), due);
            }
        }
    }

    private static void mostTopAndBottom() {
        HalfspaceBody box = new HalfspaceBody();
        Bodies.most(box, Bodies.packed(3, -2, 1), 48, 1);
        Bodies.most(box, Bodies.packed(-1, 2, -4), 56, 1);
        HalfspaceBody body = Bodies.body(2, 0, 0, 1, 0, 3, 0, -1, 0, 0, 4, 1);
        Bodies.most(body, Bodies.packed(1, 0, 0), 1, 2);
        Bodies.most(body, Bodies.packed(0, 1, 0), -1, 3);
        Bodies.most(body, Bodies.packed(0, 3, 0), -1, 1);
        Bodies.most(body, Bodies.packed(1, 1, 1), 5, 12);
        Bodies.most(body, Bodies.packed(1, 0, -1), 17, 2);
        Bodies.most(Bodies.octahedron(), Bodies.packed(3, -2, 1), 12, 1);
    }

    private static void whole() {
        Due.is("whole of an octahedron", Bodies.octahedron().whole(), 129);
        Due.is("whole of a hexagon", Bodies.hexagon().whole(), 217);
        Due.is("whole of a diagonal", Bodies.diagonal().whole(), 17);
        Due.is("whole of a pyramid", Bodies.pyramid().whole(), 969);
        // In the side x = 8 the cut is y + 2 z <= -4.
        HalfspaceBody side = Bodies.body(1, 2, 4, 0, -1, 0, 0, -8);
        Due.is("whole of a side with an uneven cut", side.whole(), 115);
        Due.is("a third cut", side.cut(Bodies.packed(0, -1, 0), -4), 3);
        Due.is("whole of its part from y = 4", side.whole(), 19);
        Due.is("drop it", side.drop(2), 2);
        Due.is("another third cut", side.cut(Bodies.packed(0, 0, -1), -1), 3);
        Due.is("whole of its part from z = 1", side.whole(), 4);
    }

    private static void shadow() {
        for (int axis = 0; axis < 3; axis++) {
            Due.is("shadow of the box", new HalfspaceBody().shadow(axis), 4);
            Due.is("shadow of an octahedron", Bodies.octahedron().shadow(axis), 4);
            Due.is("shadow of a hexagon", Bodies.hexagon().shadow(axis), 6);
        }
        // A ridge from x = -4 to 4 at z = 0: from above its ends are inside the shadow.
        HalfspaceBody leaning = Bodies.body(2, 0, 1, 8, 0, 1, 1, 0, 0, -1, 1, 0, -2, 0, 1, 8);
        Due.is("a ridge seen from above", leaning.shadow(2), 4);
        Due.is("a ridge seen from its end", leaning.shadow(0), 3);
        Due.is("a ridge seen from its side", leaning.shadow(1), 4);
        HalfspaceBody wedge = Bodies.body(1, 0, 1, 0);
        Due.is("a wedge seen from above", wedge.shadow(2), 4);
        Due.is("a wedge seen from its end", wedge.shadow(1), 3);
    }

    private static void section() {
        HalfspaceBody tip = Bodies.pyramid();
        Due.is("section below the tip", tip.section(2, -1), 4);
        Due.is("section through the tip", tip.section(0, 0), 3);
        Due.is("section beside the tip", tip.section(0, 3), 4);
        Bodies.counts("a pyramid after its sections", tip, 5, 8, 5);
        HalfspaceBody eight = Bodies.octahedron();
        for (int axis = 0; axis < 3; axis++) {
            Due.is("section of an octahedron", eight.section(axis, 2), 4);
            Due.is("section of a diagonal", Bodies.diagonal().section(axis, 2), 1);
            Due.is("section of a hexagon", Bodies.hexagon().section(axis, 3), 2);
        }
        Bodies.counts("an octahedron after its sections", eight, 6, 12, 8);
        Due.is("section of a cut corner", Bodies.body(1, 1, 1, 20).section(0, 6), 5);
        Due.is("section before a cut corner", Bodies.body(1, 1, 1, 20).section(0, 2), 4);
        HalfspaceBody flat = Bodies.square();
        Due.is("section across a flat body", flat.section(0, 2), 2);
        Due.is("a cut after a section", flat.cut(Bodies.packed(1, 0, 0), 0), 3);
        Due.is("it is as it should be", flat.top(3, 0), 0);
    }

    private static void objectsAreApart() {
        HalfspaceBody one = new HalfspaceBody();
        HalfspaceBody other = new HalfspaceBody();
        Due.is("a cut of one", one.cut(Bodies.packed(1, 0, 0), 0), 1);
        Due.is("the other is whole", other.whole(), 4913);
        Due.is("the one is cut", one.whole(), 9 * 289);
    }

    private static void exampleOfReadme() {
        HalfspaceBody body = new HalfspaceBody();
        Due.is("README: corners of the box", body.corners(), 8);
        Due.is("README: the first cut", body.cut(455, 12), 1);
        Due.is("README: corners after it", body.corners(), 10);
        Bodies.corner(body, 9, 8, 8, -4, 1);
        Due.is("README: on", body.on(0), 3);
        Bodies.most(body, 365, 8, 1);
        Due.is("README: d is over 60", body.cut(365, 70), HalfspaceBody.BAD);
        Due.is("README: the second cut", body.cut(366, 5), 2);
        Bodies.most(body, 365, 5, 2);
        Due.is("README: drop", body.drop(0), 1);
        Due.is("README: corners after it", body.corners(), 8);
    }
}
