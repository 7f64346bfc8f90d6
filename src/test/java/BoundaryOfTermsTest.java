/** A test for each sentence of the document's head and of its Terms that names a boundary case. */
public final class BoundaryOfTermsTest {
    private BoundaryOfTermsTest() {
    }

    public static void main(String[] args) {
        usedFor512Calls();
        boxHasItsSides();
        pointsAreReal();
        allCutsHold();
        upTo8CutsFrom0();
        cutHoldsWithEquality();
        normalsAtTheEnds();
        normalsAroundTheMiddle();
        dAtTheEnds();
        planeIsEquality();
        dimensionOfNothing();
        dimensionOfOnePoint();
        dimensionOfLine();
        dimensionOfPlane();
        dimensionOfSpace();
        cornerIsNoMiddle();
        cornersAscend();
        bottomIsAbove0();
        noCommonDivisor();
        neighbours();
        Due.end();
    }

    private static void usedFor512Calls() {
        Due.sentence("An object is used for at most 512 calls after it has been made");
        HalfspaceBody body = new HalfspaceBody();
        for (int call = 1; call <= 508; call += 4) {
            Due.is("call " + call, body.cut(728, 60), 1);
            Due.is("call " + (call + 1), body.corners(), 10);
            Due.is("call " + (call + 2), body.drop(0), 0);
            Due.is("call " + (call + 3), body.corners(), 8);
        }
        Due.is("call 509", body.cut(728, -60), 1);
        Due.is("call 510", body.corners(), 4);
        Due.is("call 511", body.needless(0), false);
        Due.is("call 512", body.whole(), 10 * 11 * 12 / 6);
    }

    private static void boxHasItsSides() {
        Due.sentence("The BODY is the set of all points with -8 <= x, y, z <= 8");
        for (int axis = 0; axis < 3; axis++) {
            for (int sign = -1; sign <= 1; sign += 2) {
                int normal = Bodies.along(axis, 4 * sign);
                Bodies.most(new HalfspaceBody(), normal, 32, 1);
                int[] dimensions = {-1, 2, 3};
                for (int more = -1; more <= 1; more++) {
                    HalfspaceBody body = new HalfspaceBody();
                    Due.is("cut " + normal, body.cut(normal, -32 + more), 1);
                    String what = "dimension after cut " + normal + " by " + (-32 + more);
                    Due.is(what, body.dimension(), dimensions[more + 1]);
                    Due.is("whole points there", body.whole(), more < 0 ? 0 : 289);
                }
            }
        }
    }

    private static void pointsAreReal() {
        Due.sentence("The BODY is the set of all points of real numbers");
        HalfspaceBody flat = Bodies.body(4, 0, 0, 1, -4, 0, 0, -1);
        Due.is("dimension at x = 1/4", flat.dimension(), 2);
        Due.is("whole points at x = 1/4", flat.whole(), 0);
        HalfspaceBody thin = Bodies.body(4, 0, 0, 2, -4, 0, 0, -1);
        Due.is("dimension from x = 1/4 to 1/2", thin.dimension(), 3);
        Due.is("whole points from x = 1/4 to 1/2", thin.whole(), 0);
    }

    private static void allCutsHold() {
        Due.sentence("for which all CUTS hold");
        for (int place = 0; place < 8; place++) {
            HalfspaceBody body = new HalfspaceBody();
            for (int i = 0; i < 8; i++) {
                body.cut(365, i == place ? -9 : 8);
            }
            Due.is("dimension if cut " + place + " holds nowhere", body.dimension(), -1);
            Due.is("whole points if it holds nowhere", body.whole(), 0);
            body.drop(place);
            Due.is("dimension without it", body.dimension(), 3);
            Due.is("whole points without it", body.whole(), 4913);
        }
    }

    private static void upTo8CutsFrom0() {
        Due.sentence("there are up to 8 cuts, numbered from 0");
        HalfspaceBody body = new HalfspaceBody();
        // The cut x + y + z <= 24 - i, of which only the newest is not needless.
        for (int i = 0; i < 8; i++) {
            Due.is("there is no cut " + i + " yet", body.on(i), Bodies.BAD);
            Due.is("cut " + i, body.cut(455, 24 - i), i + 1);
            Due.is("cut " + i + " is there", body.on(i), i == 0 ? 1 : 3);
            Due.is("cut 0 is there", body.on(0), i == 0 ? 1 : 0);
        }
        Due.is("there is no place for cut 8", body.cut(455, 0), Bodies.FULL);
        Due.is("there is no cut 8", body.on(8), Bodies.BAD);
        Due.is("cut 7 is the newest", body.needless(7), false);
        Due.is("cut 6 is an older one", body.needless(6), true);
    }

    private static void cutHoldsWithEquality() {
        Due.sentence("A cut is a x + b y + c z <= d");
        HalfspaceBody touched = Bodies.body(1, 1, 1, -24);
        Due.is("whole points at equality alone", touched.whole(), 1);
        Bodies.corner(touched, 0, -8, -8, -8, 1);
        Due.is("one less", Bodies.body(1, 1, 1, -25).corners(), 0);
        Due.is("both sides of a plane", Bodies.hexagon().whole(), 217);
        HalfspaceBody middle = Bodies.body(1, 0, 0, 0);
        Due.is("whole points up to x = 0", middle.whole(), 9 * 289);
        Bodies.most(middle, 365, 0, 1);
        Bodies.most(middle, 363, 8, 1);
    }

    private static boolean hasCorner(HalfspaceBody body, int x, int y, int z) {
        for (int k = 0; k < body.corners(); k++) {
            boolean same = body.top(k, 0) == x && body.top(k, 1) == y && body.top(k, 2) == z;
            if (same && body.bottom(k) == 1) {
                return true;
            }
        }
        return false;
    }

    private static void normalsAtTheEnds() {
        Due.sentence("its NORMAL is packed: a + 4 + 9 (b + 4) + 81 (c + 4), each from -4 to 4");
        int[] normals = {0, 8, 72, 80, 648, 656, 720, 728};
        for (int bits = 0; bits < 8; bits++) {
            int x = (bits & 1) == 0 ? -1 : 1;
            int y = (bits & 2) == 0 ? -1 : 1;
            int z = (bits & 4) == 0 ? -1 : 1;
            HalfspaceBody body = new HalfspaceBody();
            String name = "normal " + normals[bits];
            Due.is(name, body.cut(normals[bits], 60), 1);
            Due.is(name + " takes a corner off", hasCorner(body, 8 * x, 8 * y, 8 * z), false);
            Due.is(name + " leaves one along x", hasCorner(body, -x, 8 * y, 8 * z), true);
            Due.is(name + " leaves one along y", hasCorner(body, 8 * x, -y, 8 * z), true);
            Due.is(name + " leaves one along z", hasCorner(body, 8 * x, 8 * y, -z), true);
        }
    }

    private static void normalsAroundTheMiddle() {
        Due.sentence("not all 0 (so from 0 to 728, but not 364)");
        Due.is("all 0", new HalfspaceBody().cut(364, 0), Bodies.BAD);
        Due.is("below 0", new HalfspaceBody().cut(-1, 0), Bodies.BAD);
        Due.is("above 728", new HalfspaceBody().cut(729, 0), Bodies.BAD);
        int[] apart = {1, 9, 81};
        for (int axis = 0; axis < 3; axis++) {
            for (int sign = -1; sign <= 1; sign += 2) {
                HalfspaceBody body = new HalfspaceBody();
                Due.is("one number is not 0", body.cut(364 + sign * apart[axis], -8), 1);
                Due.is("corners of a side", body.corners(), 4);
                Due.is("the side's coordinate", body.top(0, axis), -8 * sign);
                Due.is("the side's coordinate", body.top(3, axis), -8 * sign);
            }
        }
    }

    private static void dAtTheEnds() {
        Due.sentence("d is from -60 to 60");
        HalfspaceBody least = new HalfspaceBody();
        Due.is("d is -61", least.cut(728, -61), Bodies.BAD);
        Due.is("d is -60", least.cut(728, -60), 1);
        Bodies.most(least, 728, -60, 1);
        Bodies.corner(least, 3, 1, -8, -8, 1);
        HalfspaceBody most = new HalfspaceBody();
        Due.is("d is 61", most.cut(728, 61), Bodies.BAD);
        Due.is("d is 60", most.cut(728, 60), 1);
        Bodies.most(most, 728, 60, 1);
        Bodies.corner(most, 9, 8, 8, -1, 1);
    }

    private static void planeIsEquality() {
        Due.sentence("Its PLANE are the points with equality");
        Due.is("no corner of the box", Bodies.body(1, 1, 1, 25).on(0), 0);
        Due.is("a corner of the box", Bodies.body(1, 1, 1, 24).on(0), 1);
        Due.is("the edge of what is cut off", Bodies.body(1, 1, 1, 23).on(0), 3);
        Due.is("an edge of the box", Bodies.body(1, 1, 0, 16).on(0), 2);
        Due.is("a side of the box", Bodies.body(1, 0, 0, 8).on(0), 4);
        Due.is("nearly a side of the box", Bodies.body(4, 0, 0, 33).on(0), 0);
    }

    private static void dimensionOfNothing() {
        Due.sentence("The DIMENSION of a set of points is -1 if it is empty");
        Due.is("beyond a corner", Bodies.empty().dimension(), -1);
        Due.is("beyond a side", Bodies.body(4, 0, 0, -33).dimension(), -1);
        Due.is("between 0 and -1/4", Bodies.body(4, 0, 0, -1, -4, 0, 0, 0).dimension(), -1);
        HalfspaceBody four = Bodies.body(1, 0, 0, 0, 0, 1, 0, 0, 0, 0, 1, 0, -4, -4, -4, -1);
        Due.is("each three of four have a common point", four.dimension(), -1);
        four.drop(3);
        Due.is("three of four", four.dimension(), 3);
        Due.is("eight cuts", Bodies.octahedron(-1).dimension(), -1);
    }

    private static void dimensionOfOnePoint() {
        Due.sentence("The DIMENSION of a set of points is 0 for one point");
        Due.is("a corner of the box", Bodies.body(4, 2, 1, -56).dimension(), 0);
        HalfspaceBody ofEdge = Bodies.body(1, 1, 0, -16, 0, 0, 3, 1, 0, 0, -3, -1);
        Due.is("a point of an edge", ofEdge.dimension(), 0);
        HalfspaceBody ofSide = Bodies.body(1, 0, 0, -8, 0, 1, 1, 0, 0, 1, -1, 0, 0, -1, 0, 0);
        Due.is("a point of a side", ofSide.dimension(), 0);
        Due.is("a point inside", Bodies.point().dimension(), 0);
        Due.is("a point of eight cuts", Bodies.octahedron(0).dimension(), 0);
    }

    private static void dimensionOfLine() {
        Due.sentence("The DIMENSION of a set of points is 1 if it lies on a line");
        Due.is("an edge of the box", Bodies.body(1, 1, 0, -16).dimension(), 1);
        HalfspaceBody ofSide = Bodies.body(1, 0, 0, -8, 0, 1, 1, 0, 0, -1, -1, 0);
        Due.is("a line across a side", ofSide.dimension(), 1);
        Due.is("a line inside", Bodies.diagonal().dimension(), 1);
        Due.is("a short line", Bodies.line(1, 4, 1, 3).dimension(), 1);
        Due.is("not the line but its end", Bodies.line(1, 4, 1, 4).dimension(), 0);
        Due.is("not the line but nothing", Bodies.line(1, 3, 1, 4).dimension(), -1);
    }

    private static void dimensionOfPlane() {
        Due.sentence("The DIMENSION of a set of points is else 2 if it lies in a plane");
        Due.is("a side of the box", Bodies.body(1, 0, 0, -8).dimension(), 2);
        Due.is("a plane inside", Bodies.hexagon().dimension(), 2);
        Due.is("a triangle", Bodies.body(1, 1, 1, -23, -1, -1, -1, 23).dimension(), 2);
        Due.is("at a corner", Bodies.body(1, 1, 1, -24, -1, -1, -1, 24).dimension(), 0);
        Due.is("with greater numbers", Bodies.body(1, 1, 1, 2, -2, -2, -2, -4).dimension(), 2);
    }

    private static void dimensionOfSpace() {
        Due.sentence("The DIMENSION of a set of points is else 3");
        Due.is("the box", new HalfspaceBody().dimension(), 3);
        Due.is("a little at a corner", Bodies.body(4, 2, 1, -55).dimension(), 3);
        Due.is("a thin slice", Bodies.body(4, 4, 4, 1, -4, -4, -4, 0).dimension(), 3);
        Due.is("inside of eight cuts", Bodies.octahedron(1).dimension(), 3);
    }

    private static void cornerIsNoMiddle() {
        Due.sentence("A CORNER is a point of the body that is not the middle of two others of it");
        Due.is("one point is the middle of no others", Bodies.point().corners(), 1);
        Due.is("a line has two ends", Bodies.line(-1, 1, 1, 1).corners(), 2);
        Due.is("a square has four", Bodies.square().corners(), 4);
        Due.is("nothing beyond a cut", Bodies.body(1, 1, 1, -23).corners(), 4);
        Due.is("a cut through an edge's ends", Bodies.body(1, 1, 0, 16).corners(), 8);
        Due.is("the same plane twice", Bodies.body(1, 1, 1, 20, 2, 2, 2, 40).corners(), 10);
        Due.is("four planes in one point", Bodies.pyramid().corners(), 5);
        Due.is("eight planes in one point", Bodies.octahedron(0).corners(), 1);
    }

    private static void cornersAscend() {
        Due.sentence("numbered from 0 in ascending order of x, those with equal x of y, then of z");
        HalfspaceBody byX = Bodies.line(-2, 3, -1, 2);
        Bodies.corner(byX, 0, -2, 0, 0, 3);
        Bodies.corner(byX, 1, -1, 0, 0, 2);
        // x is 3/4 - y/4 at z = -8: -5/4 for y = 8 and 11/4 for y = -8.
        HalfspaceBody xBeforeY = Bodies.body(4, 1, 0, 3, 0, 0, 1, -8);
        Bodies.corner(xBeforeY, 0, -8, -8, -8, 1);
        Bodies.corner(xBeforeY, 1, -8, 8, -8, 1);
        Bodies.corner(xBeforeY, 2, -5, 32, -32, 4);
        Bodies.corner(xBeforeY, 3, 11, -32, -32, 4);
        // At x = -8, y is 1/3 - z/3: -7/3 for z = 8 and 3 for z = -8.
        HalfspaceBody yBeforeZ = Bodies.body(1, 0, 0, -8, 0, 3, 1, 1, 0, -3, -1, -1);
        Bodies.corner(yBeforeZ, 0, -24, -7, 24, 3);
        Bodies.corner(yBeforeZ, 1, -8, 3, -8, 1);
        HalfspaceBody byZ =
                Bodies.body(
                        1, 0, 0, 1, -1, 0, 0, -1, 0, 1, 0, 1, 0, -1, 0, -1,
                        0, 0, 3, 1, 0, 0, -4, -1);
        Bodies.corner(byZ, 0, 4, 4, 1, 4);
        Bodies.corner(byZ, 1, 3, 3, 1, 3);
    }

    private static void bottomIsAbove0() {
        Due.sentence("there are just one BOTTOM, a whole number above 0, and three TOPS");
        HalfspaceBody low = Bodies.body(-2, 0, 0, -1, 0, -3, 0, 1, 0, 0, -4, -1);
        Bodies.corner(low, 0, 6, -4, 3, 12);
        HalfspaceBody high = Bodies.body(2, 0, 0, -1, 0, 3, 0, 1, 0, 0, 4, -1);
        Bodies.corner(high, 7, -6, 4, -3, 12);
        for (int k = 0; k < 8; k++) {
            Due.is("bottom above 0", low.bottom(k) > 0, true);
            Due.is("bottom above 0", high.bottom(k) > 0, true);
        }
    }

    private static void noCommonDivisor() {
        Due.sentence("without a common divisor of all four above 1");
        HalfspaceBody body = Bodies.body(4, 0, 0, 2, 0, 4, 0, -2, 0, 0, 2, 6);
        Bodies.corner(body, 7, 1, -1, 6, 2);
        Bodies.corner(Bodies.body(4, 0, 0, 12, 0, 4, 0, 8, 0, 0, 4, -4), 7, 3, 2, -1, 1);
        Bodies.corner(new HalfspaceBody(), 7, 8, 8, 8, 1);
        Bodies.corner(Bodies.octahedron(0), 0, 0, 0, 0, 1);
        // Of these four some two and some three have a common divisor, all four have none.
        HalfspaceBody threes = Bodies.body(2, 0, 0, 1, 0, 3, 0, 1, 0, 0, 4, 1);
        Bodies.corner(threes, 7, 6, 4, 3, 12);
        Bodies.corner(threes, 3, -96, 4, 3, 12);
    }

    private static void neighbours() {
        Due.sentence("NEIGHBOURS iff no point between them lies between two points of the body");
        HalfspaceBody box = new HalfspaceBody();
        Due.is("along an edge", box.hops(0, 1), 1);
        Due.is("across a side", box.hops(0, 3), 2);
        Due.is("across the inside", box.hops(0, 7), 3);
        HalfspaceBody twice = Bodies.body(1, 0, 0, -8, 1, 0, 0, -8);
        Due.is("across a side with three planes", twice.hops(0, 3), 2);
        Due.is("edges of a side with three planes", twice.edges(), 4);
        HalfspaceBody doubled = Bodies.body(1, 0, 0, 8, 2, 0, 0, 16);
        Due.is("across a side of the box with three planes", doubled.hops(4, 7), 2);
        Due.is("edges of a box with such a side", doubled.edges(), 12);
        Due.is("not both on the line: a line's two ends", Bodies.diagonal().hops(0, 1), 1);
        Due.is("opposite in an octahedron", Bodies.octahedron().hops(0, 5), 2);
        Due.is("an edge where another plane touches", Bodies.body(1, 1, 0, 16).hops(6, 7), 1);
    }
}
