import java.lang.reflect.Constructor;
import java.lang.reflect.Field;
import java.lang.reflect.Member;
import java.lang.reflect.Method;
import java.lang.reflect.Modifier;
import java.util.Set;
import java.util.TreeSet;

/** The class shows the face that the document gives, and nothing beside it. */
public final class FaceTest {
    private static final Set<String> FACE = Set.of(
            "public static final int JumpGenerator.NONE",
            "public JumpGenerator()",
            "public boolean JumpGenerator.seed(int)",
            "public int JumpGenerator.state()",
            "public int JumpGenerator.next()",
            "public int JumpGenerator.jump(int)",
            "public int JumpGenerator.peek(int)",
            "public boolean JumpGenerator.mark(int)",
            "public boolean JumpGenerator.back(int)",
            "public int JumpGenerator.distance(int)",
            "public int JumpGenerator.between(int,int)",
            "public int JumpGenerator.mixed(int)",
            "public int JumpGenerator.period()",
            "public int JumpGenerator.before(int,int)",
            "public int JumpGenerator.apart(int,int,int)",
            "public int JumpGenerator.nextRound(int)");

    public static void main(String[] args) {
        Set<String> shown = new TreeSet<>();
        for (Field field : JumpGenerator.class.getDeclaredFields()) {
            addIfShown(shown, field, field.toString());
        }
        for (Constructor<?> constructor : JumpGenerator.class.getDeclaredConstructors()) {
            addIfShown(shown, constructor, constructor.toString());
        }
        for (Method method : JumpGenerator.class.getDeclaredMethods()) {
            addIfShown(shown, method, method.toString());
        }
        for (String member : FACE) {
            Due.is("has " + member, shown.contains(member), true);
        }
        for (String member : shown) {
            Due.is("may show " + member, FACE.contains(member), true);
        }
        int modifiers = JumpGenerator.class.getModifiers();
        Due.is("public", Modifier.isPublic(modifiers), true);
        Due.is("final", Modifier.isFinal(modifiers), true);
        Due.is("extends Object alone", JumpGenerator.class.getSuperclass() == Object.class, true);
        Due.is("interfaces", JumpGenerator.class.getInterfaces().length, 0);
        Due.is("classes inside", JumpGenerator.class.getDeclaredClasses().length, 0);
        Due.is("NONE", JumpGenerator.NONE, -1);
        Due.end();
    }

    private static void addIfShown(Set<String> shown, Member member, String text) {
        if (!Modifier.isPrivate(member.getModifiers())) {
            shown.add(text);
        }
    }
}
