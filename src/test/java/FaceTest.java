import java.lang.reflect.Constructor;
import java.lang.reflect.Field;
import java.lang.reflect.Member;
import java.lang.reflect.Method;
import java.lang.reflect.Modifier;
import java.util.Arrays;
import java.util.Set;
import java.util.TreeSet;

/** The public face: all of the document's members and no others that can be seen from outside. */
public final class FaceTest {
    private static final Set<String> FACE = new TreeSet<>(Arrays.asList(
            "public static final int DeepSpaceLink.BAD",
            "public static final int DeepSpaceLink.FULL",
            "public static final int DeepSpaceLink.LOST",
            "public DeepSpaceLink()",
            "public int DeepSpaceLink.send(int)",
            "public int DeepSpaceLink.flip(int)",
            "public int DeepSpaceLink.drop(int)",
            "public int DeepSpaceLink.insert(int,boolean)",
            "public int DeepSpaceLink.clear()",
            "public int DeepSpaceLink.bits()",
            "public int DeepSpaceLink.bit(int)",
            "public int DeepSpaceLink.frames()",
            "public int DeepSpaceLink.place(int)",
            "public int DeepSpaceLink.message(int)",
            "public int DeepSpaceLink.mended(int)",
            "public int DeepSpaceLink.good()"));

    public static void main(String[] args) {
        Check.due("BAD", DeepSpaceLink.BAD, -1);
        Check.due("FULL", DeepSpaceLink.FULL, -2);
        Check.due("LOST", DeepSpaceLink.LOST, -3);
        int modifiers = DeepSpaceLink.class.getModifiers();
        Check.due("modifiers of the class", modifiers, Modifier.PUBLIC | Modifier.FINAL);
        Set<String> seen = new TreeSet<>();
        for (Field field : DeepSpaceLink.class.getDeclaredFields()) {
            note(seen, field, field.toString());
        }
        for (Constructor<?> constructor : DeepSpaceLink.class.getDeclaredConstructors()) {
            note(seen, constructor, constructor.toString());
        }
        for (Method method : DeepSpaceLink.class.getDeclaredMethods()) {
            note(seen, method, method.toString());
        }
        for (String member : FACE) {
            Check.due("there is " + member, seen.contains(member) ? 1 : 0, 1);
        }
        for (String member : seen) {
            Check.due("the document has " + member, FACE.contains(member) ? 1 : 0, 1);
        }
        Check.end();
    }

    private static void note(Set<String> seen, Member member, String text) {
        if (!Modifier.isPrivate(member.getModifiers())) {
            seen.add(text);
        }
    }
}
