/**
 * Long runs of calls, told by a fixed row of numbers, each answered by the class and by the
 * reference, up to the first that differ: what follows a fault tells little. The cuts are chosen
 * so that thin, touching and repeated ones come often.
 */
public final class ReferenceTest {
    private static final int RUNS = 600;
    private static final int CALLS = 500;
    private static final int[] EDGES = {
        Integer.MIN_VALUE, -61, -60, -9, -8, -1, 0, 2, 3, 7, 8, 9, 60, 61, 363, 364, 365, 728, 729,
        Integer.MAX_VALUE
    };

    private static long state = 20261115L;
    private static int lastNormal = 0;
    private static int lastD = 0;
    private static HalfspaceBody body;
    private static ReferenceBody reference;
    private static StringBuilder story;

    private ReferenceTest() {
    }

    public static void main(String[] args) {
        for (int run = 0; run < RUNS && Due.wrongSoFar() == 0; run++) {
            body = new HalfspaceBody();
            reference = new ReferenceBody();
            story = new StringBuilder("run " + run + ":");
            int size = below(8) + 1;
            for (int i = 0; i < size; i++) {
                addCut();
            }
            for (int call = size; call < CALLS && Due.wrongSoFar() == 0; call++) {
                oneCall();
            }
        }
        Due.end();
    }

    private static int below(int bound) {
        state = state * 6364136223846793005L + 1442695040888963407L;
        return (int) ((state >>> 33) % bound);
    }

    private static int within(int least, int most) {
        return least + below(most - least + 1);
    }

    private static int packed(int a, int b, int c) {
        return a + 4 + 9 * (b + 4) + 81 * (c + 4);
    }

    private static void oneCall() {
        int kind = below(100);
        if (kind < 3) {
            addCut();
        } else if (kind < 6) {
            int i = index(reference.cuts());
            say("drop", i, 0);
            Due.is(story.toString(), body.drop(i), reference.drop(i));
        } else {
            ask(kind % 14);
        }
    }

    private static int index(int size) {
        return below(30) == 0 ? EDGES[below(EDGES.length)] : within(-1, size);
    }

    private static void say(String name, int one, int two) {
        story.append(' ').append(name).append('(').append(one).append(", ").append(two).append(')');
    }

    private static void addCut() {
        chooseCut();
        if (below(40) == 0) {
            lastNormal = EDGES[below(EDGES.length)];
        }
        if (below(40) == 0) {
            lastD = EDGES[below(EDGES.length)];
        }
        say("cut", lastNormal, lastD);
        Due.is(story.toString(), body.cut(lastNormal, lastD), reference.cut(lastNormal, lastD));
    }

    private static void chooseCut() {
        int way = below(10);
        boolean fits = lastNormal >= 0 && lastNormal < 729;
        int[] n = ReferenceBody.unpacked(fits ? lastNormal : 0);
        if (way < 2) {
            lastNormal = packed(-n[0], -n[1], -n[2]);
            lastD = -lastD + (way == 0 ? 0 : within(0, 3));
        } else if (way == 2) {
            lastNormal = packed(n[0] / 2, n[1] / 2, n[2] / 2);
            lastD = lastD / 2;
        } else if (way < 6) {
            lastNormal = packed(within(-1, 1), within(-1, 1), within(-1, 1));
            lastD = within(-2, 3) * (below(2) == 0 ? 4 : 1);
        } else if (way == 6) {
            int[] m = {within(-2, 2), within(-2, 2), within(-2, 2)};
            lastNormal = packed(m[0], m[1], m[2]);
            lastD = 8 * (Math.abs(m[0]) + Math.abs(m[1])) + 8 * m[2];
        } else {
            lastNormal = below(729);
            lastD = way == 7 ? within(-60, 60) : within(-5, 25);
        }
    }

    private static void ask(int kind) {
        int k = index(reference.corners());
        int l = index(reference.corners());
        int i = index(reference.cuts());
        int axis = index(3);
        int normal = below(10) == 0 ? EDGES[below(EDGES.length)] : below(729);
        int at = below(10) == 0 ? EDGES[below(EDGES.length)] : within(-9, 9);
        switch (kind) {
            case 0 -> due("dimension", 0, 0, body.dimension(), reference.dimension());
            case 1 -> due("corners", 0, 0, body.corners(), reference.corners());
            case 2 -> due("top", k, axis, body.top(k, axis), reference.top(k, axis));
            case 3 -> due("bottom", k, 0, body.bottom(k), reference.bottom(k));
            case 4 -> due("edges", 0, 0, body.edges(), reference.edges());
            case 5 -> due("faces", 0, 0, body.faces(), reference.faces());
            case 6 -> due("on", i, 0, body.on(i), reference.on(i));
            case 7 -> Due.is(
                    story + " needless(" + i + ")", body.needless(i), reference.needless(i));
            case 8 -> due("hops", k, l, body.hops(k, l), reference.hops(k, l));
            case 9 -> due("mostTop", normal, 0, body.mostTop(normal), reference.mostTop(normal));
            case 10 -> due(
                    "mostBottom", normal, 0, body.mostBottom(normal), reference.mostBottom(normal));
            case 11 -> due("whole", 0, 0, body.whole(), reference.whole());
            case 12 -> due("shadow", axis, 0, body.shadow(axis), reference.shadow(axis));
            default -> due(
                    "section", axis, at, body.section(axis, at), reference.section(axis, at));
        }
    }

    private static void due(String name, int one, int two, int got, int want) {
        Due.is(story + " " + name + "(" + one + ", " + two + ")", got, want);
    }
}
