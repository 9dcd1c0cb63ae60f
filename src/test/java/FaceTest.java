import java.lang.reflect.Constructor;
import java.lang.reflect.Field;
import java.lang.reflect.Member;
import java.lang.reflect.Method;
import java.lang.reflect.Modifier;
import java.util.Arrays;
import java.util.HashSet;
import java.util.Set;
import java.util.TreeSet;

/** The class shows the document's face and nothing else. */
public final class FaceTest {
    private static final String FACE = String.join("\n", new TreeSet<>(Arrays.asList(
        "public static final int BAD",
        "public static final int FULL",
        "public AlignmentDesk()",
        "public int frame(int)",
        "public int dropFrame()",
        "public boolean weigh(int,int,int)",
        "public int write(int)",
        "public int rub()",
        "public int frames()",
        "public int length()",
        "public int total()",
        "public int paths()",
        "public int best()",
        "public int through(int,int)",
        "public int prefix()",
        "public int everything()",
        "public int bestNext()",
        "public int bestAt(int)")));
    private static final Check check = new Check("FaceTest");

    public static void main(String[] args) {
        Class<?> desk = AlignmentDesk.class;
        check.due("public final class", desk.getModifiers(), Modifier.PUBLIC | Modifier.FINAL);
        check.due("nested classes", desk.getDeclaredClasses().length, 0);
        check.due("interfaces", desk.getInterfaces().length, 0);
        check.due("extends Object", desk.getSuperclass() == Object.class, true);
        check.due("the face", visibleMembers(desk), FACE);
        check.due("private methods with a public name", namesakes(desk), 0);
        check.due("static fields that are no constants", looseStatics(desk), 0);
        check.end();
    }

    private static boolean isVisible(Member member) {
        return !Modifier.isPrivate(member.getModifiers());
    }

    private static String visibleMembers(Class<?> type) {
        Set<String> seen = new TreeSet<>();
        for (Field field : type.getDeclaredFields()) {
            if (isVisible(field)) {
                seen.add(field.toString().replace("AlignmentDesk.", ""));
            }
        }
        for (Constructor<?> constructor : type.getDeclaredConstructors()) {
            if (isVisible(constructor)) {
                seen.add(constructor.toString());
            }
        }
        for (Method method : type.getDeclaredMethods()) {
            if (isVisible(method)) {
                seen.add(method.toString().replace("AlignmentDesk.", ""));
            }
        }
        return String.join("\n", seen);
    }

    private static int namesakes(Class<?> type) {
        Set<String> names = new HashSet<>();
        for (Method method : type.getMethods()) {
            names.add(method.getName());
        }
        int count = 0;
        for (Method method : type.getDeclaredMethods()) {
            if (!isVisible(method) && names.contains(method.getName())) {
                count++;
            }
        }
        return count;
    }

    private static int looseStatics(Class<?> type) {
        int count = 0;
        for (Field field : type.getDeclaredFields()) {
            boolean number = field.getType() == int.class || field.getType() == long.class;
            int modifiers = field.getModifiers();
            if (Modifier.isStatic(modifiers) && !(Modifier.isFinal(modifiers) && number)) {
                count++;
            }
        }
        return count;
    }
}
