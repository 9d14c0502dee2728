import java.lang.reflect.Constructor;
import java.lang.reflect.Field;
import java.lang.reflect.Method;
import java.lang.reflect.Modifier;
import java.util.Set;
import java.util.TreeSet;

// The public face is the document's, to the letter, and all else is private.
public final class FaceTest {
    private static final Set<String> FACE = Set.of(
        "public static final int KindJudge.BAD",
        "public static final int KindJudge.FULL",
        "public KindJudge()",
        "public int KindJudge.declare(int)",
        "public int KindJudge.token(int,int)",
        "public int KindJudge.back(int)",
        "public int KindJudge.types()",
        "public int KindJudge.parameters(int)",
        "public int KindJudge.fields(int)",
        "public boolean KindJudge.needs(int,int)",
        "public int KindJudge.group(int)",
        "public boolean KindJudge.well(int)",
        "public int KindJudge.kind(int,int)",
        "public boolean KindJudge.could(int,int,int)",
        "public int KindJudge.applied(int,int)",
        "public void KindJudge.clear()");

    public static void main(String[] args) {
        Class<?> judge = KindJudge.class;
        Set<String> seen = new TreeSet<>();
        for (Field field : judge.getDeclaredFields()) {
            note(seen, field.getModifiers(), field.toString());
        }
        for (Constructor<?> constructor : judge.getDeclaredConstructors()) {
            note(seen, constructor.getModifiers(), constructor.toString());
        }
        for (Method method : judge.getDeclaredMethods()) {
            note(seen, method.getModifiers(), method.toString());
        }
        boolean right = seen.equals(FACE);
        if (!right) {
            System.out.println("the members that are not private are " + seen + ", due are " + new TreeSet<>(FACE));
        }
        if (judge.getModifiers() != (Modifier.PUBLIC | Modifier.FINAL) || judge.getSuperclass() != Object.class
                || judge.getInterfaces().length != 0 || judge.getDeclaredClasses().length != 0) {
            right = false;
            System.out.println("the class is not just public and final, or is not alone");
        }
        System.out.println(right ? "the face is as due" : "the face is not as due");
        if (!right) {
            System.exit(1);
        }
    }

    private static void note(Set<String> seen, int modifiers, String member) {
        if (!Modifier.isPrivate(modifiers)) {
            seen.add(member);
        }
    }
}
