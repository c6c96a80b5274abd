import java.lang.reflect.Constructor;
import java.lang.reflect.Field;
import java.lang.reflect.Method;
import java.lang.reflect.Modifier;
import java.util.Set;
import java.util.TreeSet;

/** The class shows what the document's face shows, and nothing else that isn't private. */
public final class FaceTest {
    private static final Set<String> FACE = Set.of(
        "public static final int LossyLink.BAD_STATION",
        "public static final int LossyLink.FULL",
        "public static final int LossyLink.EMPTY",
        "public static final int LossyLink.BAD_BYTE",
        "public LossyLink(int)",
        "public int LossyLink.give(int,int,boolean)",
        "public int LossyLink.take(int)",
        "public int LossyLink.takeMessage(int)",
        "public int LossyLink.skip(int)",
        "public void LossyLink.reset()",
        "public int LossyLink.carry(int,int,int)",
        "public int LossyLink.fire(int)",
        "public int LossyLink.waiting(int)",
        "public int LossyLink.messages(int)",
        "public int LossyLink.peek(int,int)",
        "public boolean LossyLink.ends(int,int)",
        "public int LossyLink.done(int)",
        "public int LossyLink.sum(int)");

    private static int wrong = 0;

    private static void check(boolean holds, String what) {
        if (!holds) {
            wrong++;
            System.out.println("not so: " + what);
        }
    }

    private static Set<String> shownMembers() {
        Set<String> shown = new TreeSet<>();
        for (Field field : LossyLink.class.getDeclaredFields()) {
            if (!Modifier.isPrivate(field.getModifiers())) {
                shown.add(field.toString());
            }
        }
        for (Constructor<?> constructor : LossyLink.class.getDeclaredConstructors()) {
            shown.add(constructor.toString());
        }
        for (Method method : LossyLink.class.getDeclaredMethods()) {
            if (!Modifier.isPrivate(method.getModifiers())) {
                shown.add(method.toString());
            }
        }
        return shown;
    }

    public static void main(String[] args) {
        Set<String> shown = shownMembers();
        for (String member : FACE) {
            check(shown.contains(member), "has " + member);
        }
        for (String member : shown) {
            check(FACE.contains(member), "the document shows " + member);
        }
        int modifiers = LossyLink.class.getModifiers();
        check(Modifier.isPublic(modifiers) && Modifier.isFinal(modifiers), "public and final");
        check(LossyLink.BAD_STATION == -1, "BAD_STATION is -1");
        check(LossyLink.FULL == -2, "FULL is -2");
        check(LossyLink.EMPTY == -3, "EMPTY is -3");
        check(LossyLink.BAD_BYTE == -4, "BAD_BYTE is -4");
        System.out.println(wrong == 0 ? "the face is as due" : wrong + " are not as due");
        if (wrong != 0) {
            System.exit(1);
        }
    }
}
