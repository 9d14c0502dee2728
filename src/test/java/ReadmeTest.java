import java.io.IOException;
import java.lang.reflect.Method;
import java.lang.reflect.Modifier;
import java.nio.file.Files;
import java.nio.file.Path;

// What README.md says of the use of the class: its example call by call, and a row in its table for each call.
public final class ReadmeTest {
    private static int wrong = 0;

    private static void due(String what, boolean holds) {
        if (!holds) {
            wrong++;
            System.out.println("README.md: " + what);
        }
    }

    private static void due(String call, int got, int want) {
        due(call + " answered " + got + ", due is " + want, got == want);
    }

    private static void example() {
        KindJudge judge = new KindJudge();
        int type = judge.declare(2);
        due("declare(2)", type, 0);
        due("token(type, 0)", judge.token(type, 0), 0);
        due("token(type, 1)", judge.token(type, 1), 0);
        due("token(type, 2)", judge.token(type, 2), 1);
        due("well(type) is true", judge.well(type));
        due("kind(type, 0)", judge.kind(type, 0), 1);
        due("kind(type, 1)", judge.kind(type, 1), 0);
        due("could(type, 1, 1) is true", judge.could(type, 1, 1));
        due("applied(4 + type, 1)", judge.applied(4 + type, 1), 1);
        due("kind(type, 2)", judge.kind(type, 2), KindJudge.BAD);
    }

    private static void rows(String text) {
        due("no row for new KindJudge()", text.lines().anyMatch(line -> line.startsWith("| `new KindJudge()`")));
        for (Method method : KindJudge.class.getDeclaredMethods()) {
            if (Modifier.isPublic(method.getModifiers())) {
                String start = "| `" + method.getReturnType() + " " + method.getName() + "(";
                due("not one row for " + method.getName(), text.lines().filter(line -> line.startsWith(start)).count() == 1);
            }
        }
        due("BAD and FULL are named with their values", text.contains("`KindJudge.BAD` (" + KindJudge.BAD + ")")
            && text.contains("`KindJudge.FULL` (" + KindJudge.FULL + ")"));
        due("no word of .ci/run", text.contains(".ci/run"));
    }

    public static void main(String[] args) throws IOException {
        example();
        rows(Files.readString(Path.of("README.md")));
        System.out.println(wrong == 0 ? "all answers are as due" : wrong + " answers are not as due");
        if (wrong != 0) {
            System.exit(1);
        }
    }
}
