import java.lang.reflect.Constructor;
import java.lang.reflect.Field;
import java.lang.reflect.Method;
import java.lang.reflect.Modifier;
import java.util.Arrays;
import java.util.TreeSet;

/** The class has the members of the document's public face, and no other that is not private. */
public final class FaceTest {
    private static final String[] FACE = {
        "public HalfspaceBody()",
        "public boolean HalfspaceBody.needless(int)",
        "public int HalfspaceBody.bottom(int)",
        "public int HalfspaceBody.corners()",
        "public int HalfspaceBody.cut(int,int)",
        "public int HalfspaceBody.dimension()",
        "public int HalfspaceBody.drop(int)",
        "public int HalfspaceBody.edges()",
        "public int HalfspaceBody.faces()",
        "public int HalfspaceBody.hops(int,int)",
        "public int HalfspaceBody.mostBottom(int)",
        "public int HalfspaceBody.mostTop(int)",
        "public int HalfspaceBody.on(int)",
        "public int HalfspaceBody.section(int,int)",
        "public int HalfspaceBody.shadow(int)",
        "public int HalfspaceBody.top(int,int)",
        "public int HalfspaceBody.whole()",
        "public static final int HalfspaceBody.BAD",
        "public static final int HalfspaceBody.FULL",
        "public static final int HalfspaceBody.NONE",
    };

    private FaceTest() {
    }

    public static void main(String[] args) {
        TreeSet<String> want = new TreeSet<>(Arrays.asList(FACE));
        TreeSet<String> got = new TreeSet<>();
        for (Constructor<?> maker : HalfspaceBody.class.getDeclaredConstructors()) {
            add(got, maker.getModifiers(), maker.toString());
        }
        for (Method method : HalfspaceBody.class.getDeclaredMethods()) {
            add(got, method.getModifiers(), method.toString());
        }
        for (Field field : HalfspaceBody.class.getDeclaredFields()) {
            add(got, field.getModifiers(), field.toString());
        }
        for (String member : want) {
            Due.is("has " + member, got.contains(member), true);
        }
        for (String member : got) {
            Due.is("may have " + member, want.contains(member), true);
        }
        int ofClass = HalfspaceBody.class.getModifiers();
        Due.is("public class", Modifier.isPublic(ofClass), true);
        Due.is("final class", Modifier.isFinal(ofClass), true);
        Due.is("nested classes", HalfspaceBody.class.getDeclaredClasses().length, 0);
        Due.is("BAD", HalfspaceBody.BAD, -1000000);
        Due.is("FULL", HalfspaceBody.FULL, -1000001);
        Due.is("NONE", HalfspaceBody.NONE, -1000002);
        Due.end();
    }

    private static void add(TreeSet<String> members, int modifiers, String text) {
        if (!Modifier.isPrivate(modifiers)) {
            members.add(text);
        }
    }
}
