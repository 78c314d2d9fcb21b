import java.lang.reflect.Constructor;
import java.lang.reflect.Field;
import java.lang.reflect.Method;
import java.lang.reflect.Modifier;
import java.util.Arrays;
import java.util.Set;
import java.util.TreeSet;

/** The public face is the document's, and nothing else can be seen from outside. */
public final class FaceTest {
    private FaceTest() {
    }

    public static void main(String[] args) {
        Set<String> seen = new TreeSet<>();
        for (Constructor<?> made : TopicDesk.class.getDeclaredConstructors()) {
            seen.add(made.toString());
        }
        for (Field field : TopicDesk.class.getDeclaredFields()) {
            if (!Modifier.isPrivate(field.getModifiers())) {
                seen.add(field.toString());
            }
            boolean plain = !Modifier.isStatic(field.getModifiers()) || Modifier.isFinal(field.getModifiers());
            Checks.due("static fields are final: " + field, plain, true);
        }
        for (Method method : TopicDesk.class.getDeclaredMethods()) {
            if (!Modifier.isPrivate(method.getModifiers())) {
                seen.add(withoutExceptions(method));
            }
        }
        Checks.due("the face", seen, face());
        Checks.due("public and final", TopicDesk.class.getModifiers(), Modifier.PUBLIC | Modifier.FINAL);
        Checks.finish();
    }

    private static String withoutExceptions(Method method) {
        return method.toString().replaceAll(" throws .*", "");
    }

    private static Set<String> face() {
        return new TreeSet<>(Arrays.asList(
                "public TopicDesk()",
                "public static final int TopicDesk.NONE",
                "public boolean TopicDesk.type(long,int)",
                "public int TopicDesk.bind(int)",
                "public int TopicDesk.fault()",
                "public boolean TopicDesk.free(int)",
                "public int TopicDesk.route()",
                "public int TopicDesk.keep(int)",
                "public boolean TopicDesk.lose()",
                "public int TopicDesk.about(int,int)",
                "public int TopicDesk.kept(int,int)",
                "public int TopicDesk.sign(int,int)",
                "public int TopicDesk.both(int,int)",
                "public int TopicDesk.only(int,int)",
                "public int TopicDesk.spare(int)"));
    }
}
