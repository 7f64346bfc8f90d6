/** A test for each sentence of the promises 1 to 17 that names a boundary case. */
public final class BoundaryOfPromisesTest {
    private static final int BAD = Bodies.BAD;
    private static final int FULL = Bodies.FULL;
    private static final int NONE = Bodies.NONE;
    private static final int LEAST = Bodies.LEAST;
    private static final int MOST = Bodies.MOST;
    private static final int[] NO_AXIS = {LEAST, -1000, -3, -2, -1, 3, 4, 5, 1000, MOST};
    private static final int[] NO_NORMAL = {LEAST, -729, -365, -364, -1, 729, 730, 1093, MOST};

    private BoundaryOfPromisesTest() {
    }

    public static void main(String[] args) {
        newObjectHasNoCuts();
        cutFull();
        cutBadNormal();
        cutBadD();
        cutTestsInOrder();
        cutAnswersNumber();
        dropMovesDown();
        dropNone();
        dropAnswersNumberLeft();
        dimensionFollowsCuts();
        cornersFromNoneToMost();
        topBadAxis();
        topNoCorner();
        bottomNoCorner();
        edgesEachCoupleOnce();
        facesAreDifferent();
        facesHaveDimension2();
        facesOfFlatAndLess();
        onNone();
        onFromNoneToAll();
        needlessSame();
        needlessOfNothing();
        needlessNone();
        hopsSmallest();
        hopsNotThere();
        mostBadNormal();
        mostOfNothing();
        mostTestsInOrder();
        mostInLowestTerms();
        mostBottomAbove0();
        wholeFromNoneToMost();
        shadowOfOtherAxes();
        shadowCornersInTheSameSense();
        shadowBadAxis();
        sectionAtTheEnds();
        sectionOfOnePoint();
        sectionBad();
        Due.end();
    }

    private static void newObjectHasNoCuts() {
        Due.sentence("1: No cuts");
        HalfspaceBody older = Bodies.octahedron();
        HalfspaceBody body = new HalfspaceBody();
        Due.is("drop", body.drop(0), BAD);
        Due.is("on", body.on(0), BAD);
        Due.is("needless", body.needless(0), false);
        Due.is("whole", body.whole(), 4913);
        Bodies.counts("new", body, 8, 12, 6);
        Due.is("first cut", body.cut(365, 0), 1);
        Due.is("an older object keeps its own", older.drop(0), 7);
    }

    private static void cutFull() {
        Due.sentence("2: 8 are there: FULL");
        HalfspaceBody body = new HalfspaceBody();
        for (int count = 1; count <= 8; count++) {
            Due.is("cut " + count, body.cut(365, 8 - count), count);
        }
        for (int more = 0; more < 20; more++) {
            Due.is("one more", body.cut(365, -8), FULL);
        }
        Due.is("the eighth holds, a ninth doesn't", body.mostTop(365), 0);
        Due.is("one less", body.drop(0), 7);
        Due.is("place for one", body.cut(365, -8), 8);
        Due.is("the new one holds", body.mostTop(365), -8);
        Due.is("full again", body.cut(365, -8), FULL);
    }

    private static void cutBadNormal() {
        Due.sentence("2: normal outside 0..728 or 364: BAD");
        for (int normal : NO_NORMAL) {
            Due.is("normal " + normal, new HalfspaceBody().cut(normal, 0), BAD);
        }
        Due.is("normal 364", new HalfspaceBody().cut(364, 0), BAD);
        for (int normal = 0; normal <= 728; normal++) {
            int due = normal == 364 ? BAD : 1;
            Due.is("normal " + normal, new HalfspaceBody().cut(normal, 0), due);
        }
    }

    private static void cutBadD() {
        Due.sentence("2: d outside -60..60: BAD");
        for (int d : new int[] {LEAST, -120, -61, 61, 120, MOST}) {
            Due.is("d " + d, new HalfspaceBody().cut(365, d), BAD);
        }
        for (int d = -60; d <= 60; d++) {
            Due.is("d " + d, new HalfspaceBody().cut(365, d), 1);
        }
    }

    private static void cutTestsInOrder() {
        Due.sentence("2: Tested in this order");
        HalfspaceBody body = Bodies.octahedron();
        for (int normal : NO_NORMAL) {
            Due.is("full and normal " + normal, body.cut(normal, 0), FULL);
            Due.is("full, d 61 and normal " + normal, body.cut(normal, 61), FULL);
        }
        Due.is("full and normal 364", body.cut(364, 0), FULL);
        Due.is("full and d -61", body.cut(365, -61), FULL);
        Due.is("full and d 61", body.cut(365, 61), FULL);
        body.drop(0);
        Due.is("not full and normal 364", body.cut(364, 0), BAD);
        Due.is("not full and d 61", body.cut(365, 61), BAD);
    }

    private static void cutAnswersNumber() {
        Due.sentence("2: Else answers the number of cuts");
        HalfspaceBody body = new HalfspaceBody();
        for (int count = 1; count <= 8; count++) {
            Due.is("the same cut again", body.cut(0, 60), count);
        }
        body.drop(3);
        body.drop(3);
        Due.is("after two drops", body.cut(0, 60), 7);
    }

    /** The cuts x <= -3, x <= -2 and so on: the greatest x is that of the first cut. */
    private static HalfspaceBody ladder(int size) {
        HalfspaceBody body = new HalfspaceBody();
        for (int i = 0; i < size; i++) {
            body.cut(365, i - 3);
        }
        return body;
    }

    private static void dropMovesDown() {
        Due.sentence("3: Takes cut i out; later ones move one down");
        for (int size = 1; size <= 8; size++) {
            for (int i = 0; i < size; i++) {
                HalfspaceBody body = ladder(size);
                body.drop(i);
                for (int first = 0; first < size - 1; first++) {
                    int due = (first < i ? first : first + 1) - 3;
                    Due.is("first after drop " + i + " of " + size, body.mostTop(365), due);
                    Due.is("it is cut 0", body.on(0), 4);
                    body.drop(0);
                }
                Due.is("none is left", body.on(0), BAD);
                Due.is("none holds any more", body.mostTop(365), 8);
            }
        }
    }

    private static void dropNone() {
        Due.sentence("3: There is none: BAD");
        for (int size = 0; size <= 8; size++) {
            HalfspaceBody body = ladder(size);
            for (int i : new int[] {LEAST, -1000, -8, -1, size, size + 1, 8, 9, 1000, MOST}) {
                Due.is("drop " + i + " of " + size, body.drop(i), BAD);
            }
            Due.is("all are there", body.cut(365, 0), size < 8 ? size + 1 : FULL);
        }
        HalfspaceBody body = ladder(3);
        body.drop(0);
        Due.is("the last has moved down", body.drop(2), BAD);
        Due.is("it is one further down", body.drop(1), 1);
        Due.is("and has gone", body.drop(1), BAD);
    }

    private static void dropAnswersNumberLeft() {
        Due.sentence("3: Else answers the number left");
        HalfspaceBody body = ladder(8);
        for (int left = 7; left >= 0; left--) {
            Due.is("from the end", body.drop(left), left);
        }
        Due.is("none left", body.drop(0), BAD);
        Due.is("from 0 again", body.cut(0, 0), 1);
        Due.is("to 0 again", body.drop(0), 0);
    }

    private static void dimensionFollowsCuts() {
        Due.sentence("4: The dimension of the body");
        HalfspaceBody body = new HalfspaceBody();
        int[][] cuts = {{365, 8}, {365, -8}, {373, -8}, {445, -8}, {445, -9}};
        int[] dimensions = {3, 2, 1, 0, -1};
        for (int i = 0; i < 5; i++) {
            body.cut(cuts[i][0], cuts[i][1]);
            Due.is("after cut " + i, body.dimension(), dimensions[i]);
        }
        for (int i = 4; i > 0; i--) {
            body.drop(i);
            Due.is("without cut " + i, body.dimension(), dimensions[i - 1]);
        }
    }

    private static void cornersFromNoneToMost() {
        Due.sentence("5: The number of corners");
        Due.is("of nothing", Bodies.empty().corners(), 0);
        Due.is("of a point", Bodies.point().corners(), 1);
        Due.is("of a line", Bodies.diagonal().corners(), 2);
        Due.is("of a triangle", Bodies.body(1, 1, 1, -23, -1, -1, -1, 23).corners(), 3);
        Due.is("of the box", new HalfspaceBody().corners(), 8);
        HalfspaceBody most = Bodies.clippedBox();
        Due.is("of the box without its corners", most.corners(), 24);
        Bodies.corner(most, 0, -8, -8, -4, 1);
        Bodies.corner(most, 23, 8, 8, 4, 1);
        HalfspaceBody another =
                Bodies.body(
                        1, 0, 1, 12, -1, 0, 1, 12, 0, 1, 1, 13, 0, -1, 1, 13,
                        1, 0, -1, 12, -1, 0, -1, 12, 0, 1, -1, 13, 0, -1, -1, 13);
        Due.is("of a box with eight edges cut off", another.corners(), 24);
    }

    private static void topBadAxis() {
        Due.sentence("6: axis outside 0..2: BAD");
        HalfspaceBody body = Bodies.point();
        for (int axis : NO_AXIS) {
            Due.is("axis " + axis, body.top(0, axis), BAD);
        }
        Due.is("axis 0", body.top(0, 0), 6);
        Due.is("axis 1", body.top(0, 1), 4);
        Due.is("axis 2", body.top(0, 2), 3);
    }

    private static void topNoCorner() {
        Due.sentence("6: there is no corner k: NONE");
        for (int axis = 0; axis < 3; axis++) {
            for (int k : new int[] {LEAST, -1000, -1, 8, 9, 1000, MOST}) {
                Due.is("top of " + k + " of 8", new HalfspaceBody().top(k, axis), NONE);
            }
            Due.is("top of 7 of 8", new HalfspaceBody().top(7, axis), 8);
            Due.is("top of 1 of 1", Bodies.point().top(1, axis), NONE);
            Due.is("top of 0 of none", Bodies.empty().top(0, axis), NONE);
            Due.is("top of 24 of 24", Bodies.clippedBox().top(24, axis), NONE);
            Due.is("top of 23 of 24", Bodies.clippedBox().top(23, axis), axis < 2 ? 8 : 4);
        }
    }

    private static void bottomNoCorner() {
        Due.sentence("7: NONE if there is none");
        for (int k : new int[] {LEAST, -1000, -1, 8, 9, 1000, MOST}) {
            Due.is("bottom of " + k + " of 8", new HalfspaceBody().bottom(k), NONE);
        }
        Due.is("bottom of 7 of 8", new HalfspaceBody().bottom(7), 1);
        Due.is("bottom of 0 of 1", Bodies.point().bottom(0), 12);
        Due.is("bottom of 1 of 1", Bodies.point().bottom(1), NONE);
        Due.is("bottom of 0 of none", Bodies.empty().bottom(0), NONE);
        Due.is("bottom of 23 of 24", Bodies.clippedBox().bottom(23), 1);
        Due.is("bottom of 24 of 24", Bodies.clippedBox().bottom(24), NONE);
    }

    private static void edgesEachCoupleOnce() {
        Due.sentence("8: each couple once");
        Due.is("of nothing", Bodies.empty().edges(), 0);
        Due.is("of a point", Bodies.point().edges(), 0);
        Due.is("of a line", Bodies.diagonal().edges(), 1);
        Due.is("of a triangle", Bodies.body(1, 1, 1, -23, -1, -1, -1, 23).edges(), 3);
        Due.is("of a square", Bodies.square().edges(), 4);
        Due.is("of a tetrahedron", Bodies.body(1, 1, 1, -23).edges(), 6);
        Due.is("of the box", new HalfspaceBody().edges(), 12);
        Due.is("of the box without its corners", Bodies.clippedBox().edges(), 36);
    }

    private static void facesAreDifferent() {
        Due.sentence("9: The number of different sets");
        Due.is("a cut in a side of the box", Bodies.body(1, 0, 0, 8).faces(), 6);
        Due.is("the same with greater numbers", Bodies.body(3, 0, 0, 24).faces(), 6);
        Due.is("one plane twice", Bodies.body(1, 1, 1, 2, 2, 2, 2, 4).faces(), 7);
        int[] rows = new int[32];
        for (int i = 0; i < 8; i++) {
            rows[4 * i + 1] = -1;
            rows[4 * i + 3] = 5;
        }
        Due.is("one plane eight times", Bodies.body(rows).faces(), 6);
        Due.is("all fourteen", Bodies.clippedBox().faces(), 14);
    }

    private static void facesHaveDimension2() {
        Due.sentence("9: sets of dimension 2 that the body has in common with one of its planes");
        Due.is("a plane beyond the box", Bodies.body(1, 1, 1, 25).faces(), 6);
        Due.is("a plane at a corner", Bodies.body(1, 1, 1, 24).faces(), 6);
        Due.is("a plane at an edge", Bodies.body(1, 1, 0, 16).faces(), 6);
        Due.is("a plane that cuts a corner off", Bodies.body(1, 1, 1, 23).faces(), 7);
        // Only the square at z = -8 is left of the box: its other sides are touched or out.
        Due.is("sides that are cut down to an edge", Bodies.pyramid().faces(), 5);
        Due.is("sides that are cut off", Bodies.octahedron().faces(), 8);
        Due.is("sides that are cut down to a point", Bodies.octahedron(8).faces(), 8);
    }

    private static void facesOfFlatAndLess() {
        Due.sentence("9: for a body of a dimension below 3: 1 if that is 2, else 0");
        Due.is("a side of the box", Bodies.body(1, 0, 0, -8).faces(), 1);
        Due.is("a plane inside", Bodies.hexagon().faces(), 1);
        Due.is("a square", Bodies.square().faces(), 1);
        HalfspaceBody four = Bodies.body(0, 1, 0, 3, 0, -1, 0, -3, 0, 2, 0, 6, 0, -2, 0, -6);
        Due.is("a square of four cuts", four.faces(), 1);
        Due.is("a line", Bodies.diagonal().faces(), 0);
        Due.is("an edge of the box", Bodies.body(1, 1, 0, -16).faces(), 0);
        Due.is("a point", Bodies.point().faces(), 0);
        Due.is("a point of eight cuts", Bodies.octahedron(0).faces(), 0);
        Due.is("nothing", Bodies.empty().faces(), 0);
    }

    private static void onNone() {
        Due.sentence("10: BAD if there is none");
        for (int size = 0; size <= 8; size++) {
            HalfspaceBody body = ladder(size);
            for (int i : new int[] {LEAST, -7, -6, -1, size, size + 1, 8, 9, 1000, MOST}) {
                Due.is("on " + i + " of " + size, body.on(i), BAD);
            }
        }
        Due.is("of nothing", Bodies.empty().on(1), BAD);
        HalfspaceBody body = ladder(2);
        body.drop(0);
        Due.is("a cut that moved down", body.on(1), BAD);
        body.section(0, 0);
        Due.is("a section is no cut", body.on(1), BAD);
    }

    private static void onFromNoneToAll() {
        Due.sentence("10: The number of corners that lie in the plane of cut i");
        Due.is("of nothing", Bodies.empty().on(0), 0);
        Due.is("beyond the box", Bodies.body(1, 0, 0, 9).on(0), 0);
        Due.is("a point", Bodies.point().on(0), 1);
        Due.is("both ends of a line", Bodies.diagonal().on(3), 2);
        Due.is("one end of a line", Bodies.line(1, 4, 1, 3).on(5), 1);
        Due.is("all of a flat body, its first cut", Bodies.hexagon().on(0), 6);
        Due.is("all of a flat body, its last cut", Bodies.hexagon().on(1), 6);
        Due.is("the first of eight", Bodies.octahedron().on(0), 3);
        Due.is("the last of eight", Bodies.octahedron().on(7), 3);
        HalfspaceBody prism =
                Bodies.body(1, 1, 0, 12, -1, 1, 0, 12, 1, -1, 0, 12, -1, -1, 0, 12, 0, 0, 1, 7);
        Due.is("eight corners", prism.on(4), 8);
    }

    private static void needlessSame() {
        Due.sentence("11: Whether the body is the same without cut i");
        Due.is("beyond the box", Bodies.body(1, 1, 1, 25).needless(0), true);
        Due.is("at a corner", Bodies.body(1, 1, 1, 24).needless(0), true);
        Due.is("a corner off", Bodies.body(1, 1, 1, 23).needless(0), false);
        Due.is("at a side", Bodies.body(4, 0, 0, 32).needless(0), true);
        Due.is("a slice off", Bodies.body(4, 0, 0, 31).needless(0), false);
        Due.is("all but a side off", Bodies.body(4, 0, 0, -32).needless(0), false);
        HalfspaceBody twice = Bodies.body(1, 1, 1, 2, 2, 2, 2, 4);
        Due.is("the first of one plane", twice.needless(0), true);
        Due.is("the second of one plane", twice.needless(1), true);
        twice.drop(1);
        Due.is("the only one of one plane", twice.needless(0), false);
        // The same number of corners with and without the cut.
        HalfspaceBody moved = Bodies.body(1, 0, 0, 5, 1, 0, 0, 6);
        Due.is("the one in front", moved.needless(0), false);
        Due.is("the one behind", moved.needless(1), true);
        for (int i = 0; i < 8; i++) {
            Due.is("one of eight", Bodies.octahedron().needless(i), false);
            Due.is("one of eight in one point", Bodies.octahedron(0).needless(i), true);
        }
    }

    private static void needlessOfNothing() {
        Due.sentence("11: the body is the same without cut i, also if it is empty");
        Due.is("all that makes it empty", Bodies.empty().needless(0), false);
        HalfspaceBody twice = Bodies.body(1, 0, 0, -9, 0, 1, 0, 0, 0, 0, 1, -9);
        for (int i = 0; i < 3; i++) {
            Due.is("empty without it too", twice.needless(i), true);
        }
        HalfspaceBody couple = Bodies.body(1, 0, 0, 0, 0, 1, 0, 0, -4, 0, 0, -1);
        Due.is("one of the couple that makes it empty", couple.needless(0), false);
        Due.is("not one of that couple", couple.needless(1), true);
        Due.is("the other of that couple", couple.needless(2), false);
    }

    private static void needlessNone() {
        Due.sentence("11: false if there is none");
        for (int size = 0; size <= 8; size++) {
            HalfspaceBody body = ladder(size);
            for (int i : new int[] {LEAST, -7, -6, -1, size, size + 1, 8, 9, 1000, MOST}) {
                Due.is("needless " + i + " of " + size, body.needless(i), false);
            }
        }
        Due.is("of nothing", Bodies.empty().needless(1), false);
        HalfspaceBody body = Bodies.body(1, 0, 0, 8, 1, 0, 0, 8);
        body.drop(0);
        Due.is("the one that is there", body.needless(0), true);
        Due.is("the one that moved down", body.needless(1), false);
    }

    private static void hopsSmallest() {
        Due.sentence("12: The smallest number of steps from neighbour to neighbour");
        Due.is("from a point to itself", Bodies.point().hops(0, 0), 0);
        Due.is("from an end to the other", Bodies.diagonal().hops(1, 0), 1);
        for (int k = 0; k < 8; k++) {
            Due.is("from a corner to itself", new HalfspaceBody().hops(k, k), 0);
            Due.is("to the opposite corner", new HalfspaceBody().hops(k, 7 - k), 3);
        }
        // In order: (-8,0,8) (-8,8,0) (0,-8,8) (0,8,-8) (8,-8,0) (8,0,-8).
        Due.is("half around a hexagon", Bodies.hexagon().hops(0, 5), 3);
        Due.is("the shorter way around", Bodies.hexagon().hops(2, 5), 2);
        Due.is("from first to last of 24", Bodies.clippedBox().hops(0, 23), 6);
    }

    private static void hopsNotThere() {
        Due.sentence("12: NONE if one is not there");
        for (int k : new int[] {LEAST, -1000, -1, 8, 9, 1000, MOST}) {
            Due.is("from " + k + " of 8", new HalfspaceBody().hops(k, 7), NONE);
            Due.is("to " + k + " of 8", new HalfspaceBody().hops(7, k), NONE);
            Due.is("from and to " + k + " of 8", new HalfspaceBody().hops(k, k), NONE);
        }
        Due.is("from 7 to 0 of 8", new HalfspaceBody().hops(7, 0), 3);
        Due.is("from 0 to 1 of 1", Bodies.point().hops(0, 1), NONE);
        Due.is("from 1 to 0 of 1", Bodies.point().hops(1, 0), NONE);
        Due.is("in nothing", Bodies.empty().hops(0, 0), NONE);
        Due.is("from 24 of 24", Bodies.clippedBox().hops(24, 0), NONE);
        Due.is("to 24 of 24", Bodies.clippedBox().hops(0, 24), NONE);
    }

    private static void mostBadNormal() {
        Due.sentence("13 and 14: normal outside 0..728: BAD");
        for (int normal : NO_NORMAL) {
            Bodies.most(new HalfspaceBody(), normal, BAD, BAD);
        }
        Bodies.most(new HalfspaceBody(), 0, 96, 1);
        Bodies.most(new HalfspaceBody(), 728, 96, 1);
        Bodies.most(new HalfspaceBody(), 363, 8, 1);
        Bodies.most(new HalfspaceBody(), 364, 0, 1);
        Bodies.most(Bodies.point(), 364, 0, 1);
    }

    private static void mostOfNothing() {
        Due.sentence("13 and 14: the body is empty: NONE");
        for (int normal : new int[] {0, 1, 363, 364, 365, 728}) {
            Bodies.most(Bodies.empty(), normal, NONE, NONE);
        }
        HalfspaceBody body = Bodies.empty();
        body.drop(0);
        Bodies.most(body, 455, 24, 1);
        body.cut(455, -24);
        Bodies.most(body, 455, -24, 1);
    }

    private static void mostTestsInOrder() {
        Due.sentence("13 and 14: Tested in this order");
        for (int normal : NO_NORMAL) {
            Bodies.most(Bodies.empty(), normal, BAD, BAD);
        }
    }

    private static void mostInLowestTerms() {
        Due.sentence("13: a fraction in lowest terms; this is its numerator");
        HalfspaceBody body = Bodies.point();
        Bodies.most(body, Bodies.packed(1, 0, 0), 1, 2);
        Bodies.most(body, Bodies.packed(2, 0, 0), 1, 1);
        Bodies.most(body, Bodies.packed(4, 0, 0), 2, 1);
        Bodies.most(body, Bodies.packed(0, 2, 0), 2, 3);
        Bodies.most(body, Bodies.packed(0, 0, 2), 1, 2);
        Bodies.most(body, Bodies.packed(1, 1, 1), 13, 12);
        // Equal tops, other bottoms: x is from 1/4 to 1/3.
        HalfspaceBody line = Bodies.line(1, 4, 1, 3);
        Bodies.most(line, 365, 1, 3);
        Bodies.most(line, 363, -1, 4);
    }

    private static void mostBottomAbove0() {
        Due.sentence("14: Its denominator, above 0");
        HalfspaceBody body = Bodies.point();
        Bodies.most(body, Bodies.packed(-1, 0, 0), -1, 2);
        Bodies.most(body, Bodies.packed(-4, -3, -4), -4, 1);
        Bodies.most(body, Bodies.packed(-1, -1, -1), -13, 12);
        Bodies.most(body, Bodies.packed(1, 0, -2), 0, 1);
        Bodies.most(body, Bodies.packed(2, -3, 0), 0, 1);
        Bodies.most(Bodies.body(-2, 0, 0, -1), 363, -1, 2);
    }

    private static void wholeFromNoneToMost() {
        Due.sentence("15: The number of points of the body with whole coordinates");
        Due.is("of nothing", Bodies.empty().whole(), 0);
        Due.is("of a point that is not whole", Bodies.point().whole(), 0);
        Due.is("of a point that is", Bodies.octahedron(0).whole(), 1);
        Due.is("of a corner of the box", Bodies.body(1, 1, 1, -24).whole(), 1);
        Due.is("of an edge of the box", Bodies.body(1, 1, 0, -16).whole(), 17);
        Due.is("of a side of the box", Bodies.body(0, 0, -1, -8).whole(), 289);
        Due.is("of the box", new HalfspaceBody().whole(), 4913);
        Due.is("without a corner", Bodies.body(1, 1, 1, 23).whole(), 4912);
        Due.is("a plane between whole points", Bodies.body(0, 2, 0, 1, 0, -2, 0, -1).whole(), 0);
        Due.is("up to 1/2", Bodies.body(2, 0, 0, 1).whole(), 9 * 289);
        Due.is("up to -1/2", Bodies.body(2, 0, 0, -1).whole(), 8 * 289);
        Due.is("a line between whole ends", Bodies.line(-8, 1, 8, 1).whole(), 17);
        Due.is("a line between other ends", Bodies.line(-1, 2, 1, 2).whole(), 1);
    }

    private static void shadows(HalfspaceBody body, int alongX, int alongY, int alongZ) {
        Due.is("along x", body.shadow(0), alongX);
        Due.is("along y", body.shadow(1), alongY);
        Due.is("along z", body.shadow(2), alongZ);
    }

    private static void shadowOfOtherAxes() {
        Due.sentence("16: whose two coordinates are those of a point of the body other than axis");
        // A brick with one edge along y cut off: only who looks along y sees it.
        shadows(Bodies.body(1, 0, 1, 12), 4, 5, 4);
        shadows(Bodies.body(0, 1, 1, 12), 5, 4, 4);
        shadows(Bodies.body(1, 1, 0, 12), 4, 4, 5);
        shadows(Bodies.line(-1, 2, 1, 2), 1, 2, 2);
        shadows(Bodies.square(), 2, 4, 2);
    }

    private static void shadowCornersInTheSameSense() {
        Due.sentence("16: The number of corners (in the same sense) of the shadow");
        shadows(Bodies.empty(), 0, 0, 0);
        shadows(Bodies.point(), 1, 1, 1);
        shadows(Bodies.diagonal(), 2, 2, 2);
        shadows(new HalfspaceBody(), 4, 4, 4);
        shadows(Bodies.hexagon(), 6, 6, 6);
        // The tip's shadow is inside, or in the middle of an edge of the shadow.
        shadows(Bodies.pyramid(), 3, 3, 4);
        shadows(Bodies.body(1, 0, 1, 0, -1, 0, 1, 0), 4, 3, 4);
        // Seen along z, the flat body is a line: two corners fall on each end, one between them.
        HalfspaceBody edge = Bodies.body(1, -1, 0, 0, -1, 1, 0, 0, 1, 0, 1, 12);
        Due.is("corners of the flat body", edge.corners(), 5);
        shadows(edge, 5, 5, 2);
        shadows(Bodies.clippedBox(), 4, 4, 4);
        shadows(Bodies.octahedron(12), 8, 8, 8);
    }

    private static void shadowBadAxis() {
        Due.sentence("16: BAD for axis outside 0..2");
        for (int axis : NO_AXIS) {
            Due.is("shadow along " + axis, Bodies.pyramid().shadow(axis), BAD);
        }
    }

    private static void sectionAtTheEnds() {
        Due.sentence("17: The number of corners of those points whose coordinate axis is k");
        for (int axis = 0; axis < 3; axis++) {
            for (int k = -8; k <= 8; k++) {
                Due.is("of the box", new HalfspaceBody().section(axis, k), 4);
                Due.is("of nothing", Bodies.empty().section(axis, k), 0);
                Due.is("beside a point", Bodies.point().section(axis, k), 0);
                int size = Math.abs(k);
                int due = size < 4 ? 4 : size == 4 ? 1 : 0;
                Due.is("of an octahedron at " + k, Bodies.octahedron().section(axis, k), due);
            }
            Due.is("at the first side", Bodies.clippedBox().section(axis, -8), 8);
            Due.is("where eight cuts don't reach", Bodies.clippedBox().section(axis, 4), 4);
            Due.is("where four of them do", Bodies.clippedBox().section(axis, 5), 8);
            Due.is("at the last side", Bodies.clippedBox().section(axis, 8), 8);
        }
    }

    private static void sectionOfOnePoint() {
        Due.sentence("17: The number of corners of a section that is a point, a line or the body");
        Due.is("at the tip", Bodies.pyramid().section(2, 0), 1);
        Due.is("above the tip", Bodies.pyramid().section(2, 1), 0);
        Due.is("below the tip", Bodies.pyramid().section(2, -1), 4);
        Due.is("at an edge", Bodies.pyramid().section(0, 8), 2);
        Due.is("all of a flat body", Bodies.square().section(1, 3), 4);
        Due.is("beside a flat body", Bodies.square().section(1, 4), 0);
        Due.is("through a flat body", Bodies.square().section(0, 8), 2);
        Due.is("all of a line", Bodies.line(1, 4, 1, 3).section(2, 0), 2);
        Due.is("beside a short line", Bodies.line(1, 4, 1, 3).section(0, 0), 0);
        Due.is("through a line", Bodies.line(-1, 4, 1, 3).section(0, 0), 1);
    }

    private static void sectionBad() {
        Due.sentence("17: axis outside 0..2 or k outside -8..8: BAD");
        for (int axis : NO_AXIS) {
            Due.is("along " + axis, new HalfspaceBody().section(axis, 0), BAD);
            Due.is("along " + axis + " at 9", new HalfspaceBody().section(axis, 9), BAD);
        }
        for (int k : new int[] {LEAST, -1000, -10, -9, 9, 10, 1000, MOST}) {
            for (int axis = 0; axis < 3; axis++) {
                Due.is("at " + k, new HalfspaceBody().section(axis, k), BAD);
            }
        }
    }
}
