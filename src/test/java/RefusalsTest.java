import java.util.ArrayList;
import java.util.List;
import java.util.function.Supplier;
import java.util.function.ToIntFunction;

// Promise 15: each way in which a call is refused, by BAD, by FULL or by false, and that nothing is changed by it.
public final class RefusalsTest {
    private static final int BAD = -1;
    private static final int FULL = -2;
    private static final int LEAST = Integer.MIN_VALUE;
    private static final int GREATEST = Integer.MAX_VALUE;
    private static final int QUESTIONS = 1 + 16 + 16 + 8 + 32 + 64;

    private static int wrong = 0;

    private static void wrong(String what) {
        wrong++;
        System.out.println(what);
    }

    // ---- Objects on which calls are refused

    private static KindJudge declared(int... parameters) {
        KindJudge x = new KindJudge();
        for (int count : parameters) {
            x.declare(count);
        }
        return x;
    }

    private static void write(KindJudge x, int i, int... row) {
        for (int token : row) {
            x.token(i, token);
        }
    }

    private static void fill(KindJudge x, int i, int token) {
        for (int n = 0; n < 20; n++) {
            x.token(i, token);
        }
    }

    /** Three types: (1, 0) settled with an unfinished field behind it, a needing one, and one that is not well. */
    private static KindJudge three() {
        KindJudge x = declared(2, 1, 0);
        write(x, 0, 0, 1, 2, 0, 0, 8);
        write(x, 1, 0, 0, 7, 4, 1, 3, 0);
        write(x, 2, 3, 4, 0, 9);
        return x;
    }

    /** Four types with full lists: fields alone, an unfinished one alone, and both. */
    private static KindJudge fullLists() {
        KindJudge x = declared(2, 2, 1, 0);
        fill(x, 0, 2);
        fill(x, 1, 0);
        write(x, 2, 0, 1, 3);
        fill(x, 2, 0);
        fill(x, 3, 3);
        return x;
    }

    private static KindJudge sixParameters() {
        KindJudge x = declared(2, 2, 2);
        write(x, 0, 0, 0, 8, 2, 1);
        write(x, 1, 0, 0, 9, 1, 2, 0, 1, 4);
        write(x, 2, 0, 0, 7, 1, 2);
        return x;
    }

    private static KindJudge forgotten() {
        KindJudge x = three();
        x.well(0);
        x.clear();
        return x;
    }

    // ---- What an object answers

    /** All the questions with arguments in range, each with a number. */
    private static int question(KindJudge x, int number) {
        int n = number - 1;
        if (n < 0) {
            return x.types();
        }
        if (n < 16) {
            int i = n % 4;
            switch (n / 4) {
                case 0: return x.parameters(i);
                case 1: return x.fields(i);
                case 2: return x.group(i);
                default: return code(x.well(i));
            }
        }
        if (n < 32) {
            return code(x.needs(n / 4 % 4, n % 4));
        }
        if (n < 40) {
            return x.kind(n / 2 % 4, n % 2);
        }
        if (n < 72) {
            return code(x.could(n / 8 % 4, n / 4 % 2, n % 4));
        }
        return x.applied(n / 8 % 8, n % 8);
    }

    /** All that an object answers, its tokens and its room for more among it: two objects with equal ones are alike. */
    private static String everything(KindJudge x) {
        StringBuilder all = new StringBuilder("answers");
        for (int number = 0; number < QUESTIONS; number++) {
            all.append(' ').append(question(x, number));
        }
        for (int i = 0; i < 4; i++) {
            all.append("; tokens");
            for (int n = 0, token = 0; n < 21 && token >= 0; n++) {
                token = x.back(i);
                all.append(' ').append(token);
            }
        }
        all.append("; room");
        for (int n = 0; n < 5; n++) {
            all.append(' ').append(x.declare(1));
        }
        return all.toString();
    }

    // ---- The refusals

    private static void refused(String call, Supplier<KindJudge> made, ToIntFunction<KindJudge> refusal, int want) {
        String before = everything(made.get());
        // With and without an answer worked out before, as the program may keep what it worked out.
        for (int asked = 0; asked < 2; asked++) {
            KindJudge x = made.get();
            if (asked == 1) {
                x.well(0);
            }
            for (int time = 1; time <= 2; time++) {
                int got = refusal.applyAsInt(x);
                if (got != want) {
                    wrong(call + " answered " + got + ", due is " + want);
                }
            }
            String after = everything(x);
            if (!after.equals(before)) {
                wrong(call + " changed " + before + " to " + after);
            }
        }
    }

    private static int code(boolean answer) {
        return answer ? 1 : 0;
    }

    private static List<Supplier<KindJudge>> objects() {
        List<Supplier<KindJudge>> all = new ArrayList<>();
        all.add(KindJudge::new);
        all.add(RefusalsTest::three);
        all.add(RefusalsTest::fullLists);
        all.add(RefusalsTest::sixParameters);
        all.add(RefusalsTest::forgotten);
        return all;
    }

    private static void declareRefused() {
        for (int parameters : new int[] {LEAST, -2, -1, 3, 4, GREATEST}) {
            for (Supplier<KindJudge> made : objects()) {
                refused("declare(" + parameters + ")", made, x -> x.declare(parameters), BAD);
            }
        }
        refused("declare(0), four types", RefusalsTest::fullLists, x -> x.declare(0), FULL);
        refused("declare(1), four types", RefusalsTest::fullLists, x -> x.declare(1), FULL);
        refused("declare(2), four types", RefusalsTest::fullLists, x -> x.declare(2), FULL);
        refused("declare(1), six parameters", RefusalsTest::sixParameters, x -> x.declare(1), FULL);
        refused("declare(2), six parameters", RefusalsTest::sixParameters, x -> x.declare(2), FULL);
        refused("declare(2), five parameters", () -> declared(1, 2, 2), x -> x.declare(2), FULL);
        refused("declare(2), four types", () -> declared(0, 0, 0, 0), x -> x.declare(2), FULL);
    }

    private static void tokenRefused() {
        for (int i : new int[] {LEAST, -1, 4, GREATEST}) {
            for (Supplier<KindJudge> made : objects()) {
                refused("token(" + i + ", 3)", made, x -> x.token(i, 3), BAD);
            }
        }
        refused("token(0, 3), no types", KindJudge::new, x -> x.token(0, 3), BAD);
        refused("token(3, 3), three types", RefusalsTest::three, x -> x.token(3, 3), BAD);
        refused("token(0, 3), forgotten type", RefusalsTest::forgotten, x -> x.token(0, 3), BAD);
        for (int token : new int[] {LEAST, -1, 11, GREATEST}) {
            for (int i = 0; i < 3; i++) {
                int type = i;
                refused("token(" + i + ", " + token + ")", RefusalsTest::three, x -> x.token(type, token), BAD);
                refused("token(" + i + ", " + token + "), full list", RefusalsTest::fullLists, x -> x.token(type, token), BAD);
            }
        }
        refused("token(1, 2), one parameter", RefusalsTest::three, x -> x.token(1, 2), BAD);
        refused("token(2, 1), no parameters", RefusalsTest::three, x -> x.token(2, 1), BAD);
        refused("token(2, 2), no parameters", RefusalsTest::three, x -> x.token(2, 2), BAD);
        refused("token(0, 10), three types", RefusalsTest::three, x -> x.token(0, 10), BAD);
        refused("token(2, 2), full list with one parameter", RefusalsTest::fullLists, x -> x.token(2, 2), BAD);
        refused("token(3, 1), full list without parameters", RefusalsTest::fullLists, x -> x.token(3, 1), BAD);
        refused("token(0, 2), full list of fields", RefusalsTest::fullLists, x -> x.token(0, 2), FULL);
        refused("token(0, 0), full list of fields", RefusalsTest::fullLists, x -> x.token(0, 0), FULL);
        refused("token(0, 4), full list of fields", RefusalsTest::fullLists, x -> x.token(0, 4), FULL);
        refused("token(1, 3), full list of APPLYs", RefusalsTest::fullLists, x -> x.token(1, 3), FULL);
        refused("token(2, 3), full list", RefusalsTest::fullLists, x -> x.token(2, 3), FULL);
        refused("token(3, 10), full list of the last type", RefusalsTest::fullLists, x -> x.token(3, 10), FULL);
    }

    private static void backRefused() {
        for (int i : new int[] {LEAST, -1, 4, GREATEST}) {
            for (Supplier<KindJudge> made : objects()) {
                refused("back(" + i + ")", made, x -> x.back(i), BAD);
            }
        }
        refused("back(0), no types", KindJudge::new, x -> x.back(0), BAD);
        refused("back(3), three types", RefusalsTest::three, x -> x.back(3), BAD);
        refused("back(0), forgotten type", RefusalsTest::forgotten, x -> x.back(0), BAD);
        refused("back(0), no tokens", () -> declared(1), x -> x.back(0), BAD);
        for (int i = 0; i < 4; i++) {
            int type = i;
            refused("back(" + i + "), no tokens beside full lists", () -> fullBut(type), x -> x.back(type), BAD);
        }
    }

    private static KindJudge fullBut(int empty) {
        KindJudge x = declared(0, 1, 1, 0);
        for (int i = 0; i < 4; i++) {
            if (i != empty) {
                fill(x, i, 3);
            }
        }
        return x;
    }

    private static void questionsOfTypesRefused() {
        for (int i : new int[] {LEAST, -1, 4, GREATEST}) {
            for (Supplier<KindJudge> made : objects()) {
                refused("parameters(" + i + ")", made, x -> x.parameters(i), BAD);
                refused("fields(" + i + ")", made, x -> x.fields(i), BAD);
                refused("group(" + i + ")", made, x -> x.group(i), BAD);
                refused("well(" + i + ")", made, x -> code(x.well(i)), 0);
                refused("needs(" + i + ", 0)", made, x -> code(x.needs(i, 0)), 0);
                refused("needs(0, " + i + ")", made, x -> code(x.needs(0, i)), 0);
                refused("kind(" + i + ", 0)", made, x -> x.kind(i, 0), BAD);
                refused("could(" + i + ", 0, 0)", made, x -> code(x.could(i, 0, 0)), 0);
            }
        }
        refused("parameters(3), three types", RefusalsTest::three, x -> x.parameters(3), BAD);
        refused("fields(3), three types", RefusalsTest::three, x -> x.fields(3), BAD);
        refused("group(3), three types", RefusalsTest::three, x -> x.group(3), BAD);
        refused("well(3), three types", RefusalsTest::three, x -> code(x.well(3)), 0);
        refused("well(2), not well", RefusalsTest::three, x -> code(x.well(2)), 0);
        refused("needs(3, 0), three types", RefusalsTest::three, x -> code(x.needs(3, 0)), 0);
        refused("needs(0, 3), three types", RefusalsTest::three, x -> code(x.needs(0, 3)), 0);
        refused("needs(0, 1), in an unfinished one", RefusalsTest::three, x -> code(x.needs(0, 1)), 0);
    }

    private static void questionsOfKindsRefused() {
        for (int n : new int[] {LEAST, -1, 8, GREATEST}) {
            for (Supplier<KindJudge> made : objects()) {
                refused("kind(0, " + n + ")", made, x -> x.kind(0, n), BAD);
                refused("could(0, " + n + ", 0)", made, x -> code(x.could(0, n, 0)), 0);
                refused("could(0, 0, " + n + ")", made, x -> code(x.could(0, 0, n)), 0);
                refused("applied(" + n + ", 0)", made, x -> x.applied(n, 0), BAD);
                refused("applied(1, " + n + ")", made, x -> x.applied(1, n), BAD);
            }
        }
        refused("kind(0, 2), two parameters", RefusalsTest::three, x -> x.kind(0, 2), BAD);
        refused("kind(1, 1), one parameter", RefusalsTest::three, x -> x.kind(1, 1), BAD);
        refused("kind(2, 0), no parameters", RefusalsTest::three, x -> x.kind(2, 0), BAD);
        refused("could(0, 2, 0), two parameters", RefusalsTest::three, x -> code(x.could(0, 2, 0)), 0);
        refused("could(0, 0, 4)", RefusalsTest::three, x -> code(x.could(0, 0, 4)), 0);
        refused("could(0, 0, 0), does not fit", RefusalsTest::three, x -> code(x.could(0, 0, 0)), 0);
        refused("kind(0, 0), not well", RefusalsTest::notWell, x -> x.kind(0, 0), BAD);
        refused("kind(1, 1), needs what is not well", RefusalsTest::notWell, x -> x.kind(1, 1), BAD);
        refused("could(0, 0, 1), not well", RefusalsTest::notWell, x -> code(x.could(0, 0, 1)), 0);
        refused("applied(4, 0), not well", RefusalsTest::notWell, x -> x.applied(4, 0), BAD);
        refused("applied(3, 5), needs what is not well", RefusalsTest::notWell, x -> x.applied(3, 5), BAD);
        refused("applied(7, 0), three types", RefusalsTest::three, x -> x.applied(7, 0), BAD);
        refused("applied(1, 7), three types", RefusalsTest::three, x -> x.applied(1, 7), BAD);
        refused("applied(0, 0), has no kind", RefusalsTest::three, x -> x.applied(0, 0), BAD);
        refused("applied(4, 1), the kind (* -> *)", () -> declared(2), x -> x.applied(4, 1), BAD);
        refused("applied(4, 0), the kind has no number", RefusalsTest::withoutNumber, x -> x.applied(4, 0), BAD);
    }

    private static KindJudge notWell() {
        KindJudge x = declared(1, 2);
        write(x, 0, 0, 1, 3, 0, 1, 4, 0);
        write(x, 1, 0, 7, 1);
        return x;
    }

    private static KindJudge withoutNumber() {
        KindJudge x = declared(2);
        write(x, 0, 0, 2, 4);
        return x;
    }

    /** Each question is answered alike when it is the first one and when all others were asked before. */
    private static void questionsChangeNothing() {
        List<Supplier<KindJudge>> all = objects();
        all.add(RefusalsTest::notWell);
        all.add(RefusalsTest::withoutNumber);
        for (Supplier<KindJudge> made : all) {
            KindJudge upward = made.get();
            KindJudge downward = made.get();
            int[] later = new int[QUESTIONS];
            for (int number = QUESTIONS - 1; number >= 0; number--) {
                later[number] = question(downward, number);
            }
            for (int number = 0; number < QUESTIONS; number++) {
                int first = question(made.get(), number);
                int after = question(upward, number);
                if (first != after || first != later[number]) {
                    wrong("question " + number + " answered " + first + ", after others " + after + " and " + later[number]);
                }
            }
        }
    }

    /** A refusal between two taken calls: the second goes on where the first ended. */
    private static void goesOnAfterRefusals() {
        KindJudge x = new KindJudge();
        for (int i = 0; i < 4; i++) {
            goesOn("declare(3)", x.declare(3), BAD);
            goesOn("declare(1)", x.declare(1), i);
        }
        goesOn("declare(1)", x.declare(1), FULL);
        int[] row = {0, 1, 3, 0, 0, 5, 1, 3};
        int[] fields = {0, 0, 1, 1, 1, 1, 1, 2};
        for (int n = 0; n < row.length; n++) {
            goesOn("token(0, 11)", x.token(0, 11), BAD);
            goesOn("token(0, 2)", x.token(0, 2), BAD);
            goesOn("token(4, 3)", x.token(4, 3), BAD);
            goesOn("back(1)", x.back(1), BAD);
            goesOn("token number " + n, x.token(0, row[n]), fields[n]);
        }
        for (int n = row.length - 1; n >= 0; n--) {
            goesOn("back(-1)", x.back(-1), BAD);
            goesOn("back number " + n, x.back(0), row[n]);
        }
        goesOn("back(0)", x.back(0), BAD);
        goesOn("token(0, 3)", x.token(0, 3), 1);
    }

    private static void goesOn(String call, int got, int want) {
        if (got != want) {
            wrong(call + " between refusals answered " + got + ", due is " + want);
        }
    }

    public static void main(String[] args) {
        declareRefused();
        tokenRefused();
        backRefused();
        questionsOfTypesRefused();
        questionsOfKindsRefused();
        questionsChangeNothing();
        goesOnAfterRefusals();
        System.out.println(wrong == 0 ? "all answers are as due" : wrong + " answers are not as due");
        if (wrong != 0) {
            System.exit(1);
        }
    }
}
