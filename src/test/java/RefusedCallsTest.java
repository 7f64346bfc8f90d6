import java.util.function.Consumer;
import java.util.function.Supplier;

/** Promise 18: the order of what is tested, and that a call that is refused changes nothing. */
public final class RefusedCallsTest {
    private static final int BAD = Bodies.BAD;
    private static final int FULL = Bodies.FULL;
    private static final int NONE = Bodies.NONE;
    private static final int LEAST = Bodies.LEAST;
    private static final int MOST = Bodies.MOST;

    private RefusedCallsTest() {
    }

    public static void main(String[] args) {
        topTestsInOrder();
        shadowOfNothing();
        sectionOfNothing();
        wrongNumbersChangeNothing();
        whatIsNotThereChangesNothing();
        aReachedLimitChangesNothing();
        aRefusedCutLeavesNoTrace();
        Due.end();
    }

    private static void topTestsInOrder() {
        Due.sentence("18: top: axis outside 0..2: BAD; there is no corner k: NONE");
        for (int axis : new int[] {LEAST, -1, 3, MOST}) {
            for (int k : new int[] {LEAST, -1, 8, 24, MOST}) {
                Due.is("both of the box", new HalfspaceBody().top(k, axis), BAD);
            }
            Due.is("both of nothing", Bodies.empty().top(0, axis), BAD);
            Due.is("the axis alone", new HalfspaceBody().top(0, axis), BAD);
        }
        Due.is("the corner alone", new HalfspaceBody().top(8, 2), NONE);
        Due.is("the corner alone, of nothing", Bodies.empty().top(0, 0), NONE);
    }

    private static void shadowOfNothing() {
        Due.sentence("18: shadow: an axis that is outside is BAD also if the body is empty");
        for (int axis : new int[] {LEAST, -2, -1, 3, 4, MOST}) {
            Due.is("shadow of nothing along " + axis, Bodies.empty().shadow(axis), BAD);
        }
        for (int axis = 0; axis < 3; axis++) {
            Due.is("shadow of nothing along " + axis, Bodies.empty().shadow(axis), 0);
        }
    }

    private static void sectionOfNothing() {
        Due.sentence("18: section: an axis or k that is outside is BAD also if the body is empty");
        for (int axis : new int[] {LEAST, -2, -1, 3, 4, MOST}) {
            Due.is("section of nothing along " + axis, Bodies.empty().section(axis, 0), BAD);
        }
        for (int k : new int[] {LEAST, -10, -9, 9, 10, MOST}) {
            for (int axis = 0; axis < 3; axis++) {
                Due.is("section of nothing at " + k, Bodies.empty().section(axis, k), BAD);
            }
        }
        Due.is("section of nothing at -8", Bodies.empty().section(2, -8), 0);
        Due.is("section of nothing at 8", Bodies.empty().section(0, 8), 0);
    }

    /** What a body answers, in fewer than 200 calls, the last ones taking all its cuts out. */
    private static String answers(HalfspaceBody body) {
        StringBuilder all = new StringBuilder();
        all.append(body.dimension()).append(' ').append(body.edges()).append(' ');
        all.append(body.faces()).append(' ').append(body.whole());
        int corners = body.corners();
        for (int k = 0; k < corners; k++) {
            all.append(" (").append(body.top(k, 0)).append(' ').append(body.top(k, 1));
            all.append(' ').append(body.top(k, 2)).append(' ').append(body.bottom(k));
            all.append(") ").append(body.hops(0, k));
        }
        for (int i = 0; i < 8; i++) {
            all.append(' ').append(body.on(i)).append(' ').append(body.needless(i));
        }
        for (int axis = 0; axis < 3; axis++) {
            all.append(' ').append(body.shadow(axis)).append(' ').append(body.section(axis, 2));
        }
        all.append(' ').append(body.mostTop(700)).append('/').append(body.mostBottom(700));
        for (int i = 0; i < 8; i++) {
            all.append(' ').append(body.drop(0)).append(' ').append(body.mostTop(501));
        }
        return all.toString();
    }

    /** The call has to be refused by every body that is tried here, and looks at its answer. */
    private static void changesNothing(String what, Consumer<HalfspaceBody> call) {
        changesNothing(what, HalfspaceBody::new, call);
        changesNothing(what, Bodies::pyramid, call);
        changesNothing(what, Bodies::hexagon, call);
        changesNothing(what, Bodies::diagonal, call);
        changesNothing(what, Bodies::point, call);
        changesNothing(what, Bodies::empty, call);
    }

    private static void changesNothing(
            String what, Supplier<HalfspaceBody> maker, Consumer<HalfspaceBody> call) {
        HalfspaceBody body = maker.get();
        for (int again = 0; again < 9; again++) {
            call.accept(body);
        }
        String want = answers(maker.get());
        String got = answers(body);
        Due.is(what + " is without effect: " + want + " and " + got, got.equals(want), true);
    }

    private static void wrongNumbersChangeNothing() {
        Due.sentence("18: refused, because a number is not as said there, changes nothing");
        changesNothing("cut, normal -1", b -> Due.is("cut", b.cut(-1, 0), BAD));
        changesNothing("cut, normal 729", b -> Due.is("cut", b.cut(729, 0), BAD));
        changesNothing("cut, normal 364", b -> Due.is("cut", b.cut(364, -5), BAD));
        changesNothing("cut, d -61", b -> Due.is("cut", b.cut(365, -61), BAD));
        changesNothing("cut, d 61", b -> Due.is("cut", b.cut(365, 61), BAD));
        changesNothing("top, axis -1", b -> Due.is("top", b.top(0, -1), BAD));
        changesNothing("top, axis 3", b -> Due.is("top", b.top(0, 3), BAD));
        changesNothing("mostTop, normal -1", b -> Due.is("mostTop", b.mostTop(-1), BAD));
        changesNothing("mostTop, normal 729", b -> Due.is("mostTop", b.mostTop(729), BAD));
        changesNothing("mostBottom, normal -1", b -> Due.is("mostBottom", b.mostBottom(-1), BAD));
        changesNothing("mostBottom, normal 729", b -> Due.is("mostBottom", b.mostBottom(729), BAD));
        changesNothing("shadow, axis -1", b -> Due.is("shadow", b.shadow(-1), BAD));
        changesNothing("shadow, axis 3", b -> Due.is("shadow", b.shadow(3), BAD));
        changesNothing("section, axis -1", b -> Due.is("section", b.section(-1, 0), BAD));
        changesNothing("section, axis 3", b -> Due.is("section", b.section(3, 0), BAD));
        changesNothing("section, k -9", b -> Due.is("section", b.section(0, -9), BAD));
        changesNothing("section, k 9", b -> Due.is("section", b.section(2, 9), BAD));
    }

    private static void whatIsNotThereChangesNothing() {
        Due.sentence("18: refused, because something is not there, changes nothing");
        changesNothing("drop -1", b -> Due.is("drop", b.drop(-1), BAD));
        changesNothing("drop 6", b -> Due.is("drop", b.drop(6), BAD));
        changesNothing("drop of the greatest", b -> Due.is("drop", b.drop(MOST), BAD));
        changesNothing("top of -1", b -> Due.is("top", b.top(-1, 0), NONE));
        changesNothing("top of 8", b -> Due.is("top", b.top(8, 0), NONE));
        changesNothing("bottom of -1", b -> Due.is("bottom", b.bottom(-1), NONE));
        changesNothing("bottom of 8", b -> Due.is("bottom", b.bottom(8), NONE));
        changesNothing("on -1", b -> Due.is("on", b.on(-1), BAD));
        changesNothing("on 6", b -> Due.is("on", b.on(6), BAD));
        changesNothing("needless -1", b -> Due.is("needless", b.needless(-1), false));
        changesNothing("needless 6", b -> Due.is("needless", b.needless(6), false));
        changesNothing("hops from 8", b -> Due.is("hops", b.hops(8, 0), NONE));
        changesNothing("hops to -1", b -> Due.is("hops", b.hops(0, -1), NONE));
        changesNothing(
                "mostTop of nothing", Bodies::empty, b -> Due.is("mostTop", b.mostTop(0), NONE));
        changesNothing(
                "mostBottom of nothing",
                Bodies::empty,
                b -> Due.is("mostBottom", b.mostBottom(0), NONE));
        changesNothing("drop 8 of 8", Bodies::octahedron, b -> Due.is("drop", b.drop(8), BAD));
    }

    private static void aReachedLimitChangesNothing() {
        Due.sentence("18: refused, because a limit is reached, changes nothing");
        changesNothing(
                "a ninth cut", Bodies::octahedron, b -> Due.is("cut", b.cut(365, -8), FULL));
        changesNothing(
                "a ninth cut that is wrong too",
                Bodies::octahedron,
                b -> Due.is("cut", b.cut(364, 99), FULL));
        changesNothing(
                "a section of eight cuts and a ninth",
                Bodies::clippedBox,
                b -> Due.is("cut", b.section(0, 0) + b.cut(365, -8), 4 + FULL));
    }

    private static void aRefusedCutLeavesNoTrace() {
        Due.sentence("18: a refused cut changes nothing, also for what comes after it");
        HalfspaceBody body = Bodies.body(1, 0, 0, 5);
        Due.is("refused", body.cut(373, 61), BAD);
        Due.is("refused", body.cut(364, 3), BAD);
        Due.is("the second cut", body.cut(445, 2), 2);
        Bodies.corner(body, 7, 5, 8, 2, 1);
        Due.is("refused", body.drop(2), BAD);
        Due.is("the first taken out", body.drop(0), 1);
        Bodies.corner(body, 7, 8, 8, 2, 1);
        Due.is("the second taken out", body.drop(0), 0);
        Bodies.counts("the box", body, 8, 12, 6);
    }
}
