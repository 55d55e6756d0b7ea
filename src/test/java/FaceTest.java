import java.lang.reflect.Constructor;
import java.lang.reflect.Field;
import java.lang.reflect.Member;
import java.lang.reflect.Method;
import java.lang.reflect.Modifier;
import java.util.Arrays;
import java.util.HashSet;
import java.util.Set;
import java.util.TreeSet;

/** The class has the public face of the document, and nothing else that can be seen from outside. */
public final class FaceTest {
    private static final Set<String> FACE = new TreeSet<>(Arrays.asList(
        "public static final int SharedText.BAD",
        "public static final int SharedText.FULL",
        "public static final int SharedText.EARLY",
        "public SharedText()",
        "public int SharedText.put(int,int,int)",
        "public int SharedText.erase(int,int)",
        "public int SharedText.learn(int,int,int)",
        "public int SharedText.catchUp(int,int)",
        "public int SharedText.events()",
        "public int SharedText.known(int)",
        "public int SharedText.clock(int)",
        "public int SharedText.length(int)",
        "public int SharedText.at(int,int)",
        "public int SharedText.madeBy(int,int)",
        "public int SharedText.placeOf(int,int)",
        "public boolean SharedText.same(int,int)",
        "public int SharedText.elements(int)"));

    private static int wrong = 0;

    private static void check(boolean holds, String what) {
        if (!holds) {
            wrong++;
            System.out.println("does not hold: " + what);
        }
    }

    private static boolean isSeen(Member member) {
        return !Modifier.isPrivate(member.getModifiers());
    }

    public static void main(String[] args) {
        Class<SharedText> type = SharedText.class;
        int modifiers = type.getModifiers();
        check(Modifier.isPublic(modifiers) && Modifier.isFinal(modifiers), "public final class");
        check(type.getSuperclass() == Object.class && type.getInterfaces().length == 0, "no other type");
        check(type.getDeclaredClasses().length == 0, "no nested class");

        Set<String> seen = new TreeSet<>();
        Set<String> seenNames = new HashSet<>();
        for (Field field : type.getDeclaredFields()) {
            if (isSeen(field)) {
                seen.add(field.toGenericString());
            }
        }
        for (Constructor<?> constructor : type.getDeclaredConstructors()) {
            if (isSeen(constructor)) {
                seen.add(constructor.toGenericString());
            }
        }
        for (Method method : type.getDeclaredMethods()) {
            if (isSeen(method)) {
                seen.add(method.toGenericString());
                seenNames.add(method.getName());
            }
        }
        check(seen.equals(FACE), "the face is " + FACE + ", but was " + seen);
        for (Method method : type.getDeclaredMethods()) {
            check(isSeen(method) || !seenNames.contains(method.getName()),
                "no private method bears a public one's name: " + method.getName());
        }

        System.out.println(wrong == 0 ? "the face is as due" : wrong + " faults of the face");
        if (wrong != 0) {
            System.exit(1);
        }
    }
}
