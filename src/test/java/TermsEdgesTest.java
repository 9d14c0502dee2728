import java.util.Arrays;

// The boundaries that the sections "What it is" and "Terms" name: each sentence has a test of its own.
public final class TermsEdgesTest {
    private static final int CALLS = 512;

    private static int wrong = 0;
    private static String sentence = "";

    private static void due(String call, long got, long want) {
        if (got != want) {
            wrong++;
            System.out.println("\"" + sentence + "\": " + call + " answered " + got + ", due is " + want);
        }
    }

    private static void due(String call, boolean got, boolean want) {
        due(call, got ? 1 : 0, want ? 1 : 0);
    }

    private static KindJudge declared(int... parameters) {
        KindJudge x = new KindJudge();
        for (int i = 0; i < parameters.length; i++) {
            due("declare(" + parameters[i] + ")", x.declare(parameters[i]), i);
        }
        return x;
    }

    private static void write(KindJudge x, int i, int... row) {
        for (int token : row) {
            int got = x.token(i, token);
            due("token(" + i + ", " + token + ") is taken", got >= 0, true);
        }
    }

    private static void takeBack(KindJudge x, int i, int count) {
        for (int n = 0; n < count; n++) {
            int got = x.back(i);
            due("back(" + i + ") is taken", got >= 0, true);
        }
    }

    /** The settled kinds of the parameters of type i. */
    private static void dueKinds(String what, KindJudge x, int i, int... kinds) {
        due("well(" + i + ") " + what, x.well(i), true);
        for (int p = 0; p < kinds.length; p++) {
            due("kind(" + i + ", " + p + ") " + what, x.kind(i, p), kinds[p]);
        }
    }

    /** The kind numbers that parameter p of type i could have, and no others. */
    private static void dueCould(String what, KindJudge x, int i, int p, int... kinds) {
        for (int k = 0; k < 4; k++) {
            int number = k;
            boolean want = Arrays.stream(kinds).anyMatch(n -> n == number);
            due("could(" + i + ", " + p + ", " + k + ") " + what, x.could(i, p, k), want);
        }
    }

    private static boolean wellWith(int parameters, int... row) {
        KindJudge x = declared(parameters);
        write(x, 0, row);
        return x.well(0);
    }

    /** All that can be asked without a change, but for the lists of tokens. */
    private static String answers(KindJudge x) {
        StringBuilder all = new StringBuilder("types " + x.types());
        for (int i = 0; i < 4; i++) {
            all.append("; ").append(x.parameters(i)).append(' ').append(x.fields(i)).append(' ').append(x.group(i));
            all.append(x.well(i) ? " well" : " not well");
            for (int j = 0; j < 4; j++) {
                all.append(x.needs(i, j) ? " n" : " -");
            }
            for (int p = 0; p < 2; p++) {
                all.append(' ').append(x.kind(i, p));
                for (int k = 0; k < 4; k++) {
                    all.append(x.could(i, p, k) ? 'c' : '-');
                }
            }
        }
        for (int n = 0; n < 64; n++) {
            all.append(' ').append(x.applied(n / 8, n % 8));
        }
        return all.toString();
    }

    private static int[][] ordersOfFour() {
        int[][] orders = new int[24][];
        int count = 0;
        for (int n = 0; n < 256; n++) {
            int[] order = {n / 64, n / 16 % 4, n / 4 % 4, n % 4};
            if (Arrays.stream(order).distinct().count() == 4) {
                orders[count++] = order;
            }
        }
        return orders;
    }

    // ---- What it is

    private static void callsThatFillUp() {
        sentence = "An object is used for at most 512 calls: refusals to the end";
        KindJudge types = new KindJudge();
        for (int call = 1; call <= CALLS; call++) {
            due("call " + call + ", declare(0)", types.declare(0), call <= 4 ? call - 1 : -2);
        }
        KindJudge tokens = declared(0);
        for (int call = 2; call <= CALLS; call++) {
            due("call " + call + ", token(0, 3)", tokens.token(0, 3), call <= 21 ? call - 1 : -2);
        }
        KindJudge none = declared(0);
        for (int call = 2; call <= CALLS; call++) {
            due("call " + call + ", back(0)", none.back(0), -1);
        }
    }

    private static void callsThatComeAndGo() {
        sentence = "An object is used for at most 512 calls: changes to the end";
        KindJudge x = new KindJudge();
        for (int call = 1; call <= CALLS; call += 2) {
            x.clear();
            due("call " + (call + 1) + ", declare(2)", x.declare(2), 0);
        }
        KindJudge y = declared(1);
        write(y, 0, 0, 1);
        for (int call = 4; call + 3 <= CALLS; call += 4) {
            due("call " + call + ", token(0, 4)", y.token(0, 4), 1);
            due("call " + (call + 1) + ", kind(0, 0)", y.kind(0, 0), 3);
            due("call " + (call + 2) + ", back(0)", y.back(0), 4);
            due("call " + (call + 3) + ", kind(0, 0)", y.kind(0, 0), 0);
        }
        due("call 512, token(0, 3)", y.token(0, 3), 1);
    }

    private static void callsThatAsk() {
        sentence = "An object is used for at most 512 calls: questions to the end";
        KindJudge x = declared(2, 2, 2, 0);
        int calls = 4;
        for (int i = 0; i < 4; i++) {
            for (int n = 1; n <= 20; n++) {
                due("token " + n + " of type " + i, x.token(i, 3), n);
                calls++;
            }
        }
        for (; calls < CALLS; calls += 4) {
            due("types()", x.types(), 4);
            due("well(3)", x.well(3), true);
            due("could(2, 1, 3)", x.could(2, 1, 3), true);
            due("applied(6, 0)", x.applied(6, 0), 1);
        }
        due("the calls so far", calls, CALLS);
    }

    private static void callsAfterTheLast() {
        sentence = "what later calls answer is free (but no call may throw or fail to end)";
        KindJudge x = new KindJudge();
        for (int call = 0; call < 4 * CALLS; call++) {
            x.declare(call % 3);
            x.token(call % 4, call % 11);
            x.well(call % 4);
            x.applied(call % 8, call / 8 % 8);
            if (call % 50 == 0) {
                x.clear();
            }
            x.back(call / 3 % 4);
        }
    }

    // ---- Kinds and constructors

    private static void fourKindsHaveNumbers() {
        sentence = "Four of them have numbers: 0 *, 1 (* -> *), 2 (* -> (* -> *)), 3 ((* -> *) -> *)";
        int[][] asks = {{1}, {0, 1, 3}, {0, 0, 1, 3, 3}, {0, 1, 4}};
        for (int k = 0; k < 4; k++) {
            KindJudge x = declared(1);
            write(x, 0, asks[k]);
            dueKinds("that must be " + k, x, 0, k);
            dueCould("that must be " + k, x, 0, 0, k);
        }
    }

    private static void otherKindsHaveNoNumbers() {
        sentence = "uses only the kinds with numbers 0 .. 3";
        int[][] asks = {
            {0, 0, 0, 1, 3, 3, 3}, // (* -> (* -> (* -> *)))
            {0, 1, 5},             // ((* -> (* -> *)) -> *)
            {0, 1, 6},             // (((* -> *) -> *) -> *)
            {0, 0, 1, 3, 4},       // (* -> ((* -> *) -> *))
            {0, 0, 1, 4, 3},       // ((* -> *) -> (* -> *))
            {0, 4, 0, 1, 4},       // ((* -> *) -> *) has a number, and fits here
            {0, 6, 0, 1, 4},       // ((* -> *) -> (* -> *))
        };
        for (int n = 0; n < asks.length; n++) {
            due("well with " + Arrays.toString(asks[n]), wellWith(1, asks[n]), n == 5);
        }
    }

    private static void builtInConstructors() {
        sentence = "constructor 0 has kind number 0, 1 has 1, 2 has 2, 3 has 3";
        int[][] want = {{-1, -1, -1, -1}, {0, -1, -1, -1}, {1, -1, -1, -1}, {-1, 0, -1, -1}};
        KindJudge x = new KindJudge();
        for (int c = 0; c < 4; c++) {
            for (int d = 0; d < 4; d++) {
                due("applied(" + c + ", " + d + ")", x.applied(c, d), want[c][d]);
            }
        }
        // Applied to constructor c, the type tells the kind of c.
        for (int c = 0; c < 4; c++) {
            KindJudge y = declared(2);
            write(y, 0, 0, 0, 7, 3 + c, 3);
            dueKinds("of a type applied to constructor " + c, y, 0, c, 0);
        }
    }

    private static void declaredConstructors() {
        sentence = "Constructor 4 + i stands for the declared type i";
        for (int i = 0; i < 4; i++) {
            KindJudge x = new KindJudge();
            for (int j = 0; j < 4; j++) {
                due("declare", x.declare(i == j ? 1 : 0), j);
            }
            for (int c = 4; c < 8; c++) {
                due("applied(" + c + ", 0), type " + i + " has a parameter", x.applied(c, 0), c == 4 + i ? 0 : -1);
                due("applied(1, " + c + ")", x.applied(1, c), c == 4 + i ? -1 : 0);
                due("applied(3, " + c + ")", x.applied(3, c), c == 4 + i ? 0 : -1);
            }
            int other = (i + 1) % 4;
            for (int j = 0; j < 4; j++) {
                write(x, other, 7 + j);
                due("a field that is constructor " + (4 + j), x.well(other), j != i);
                for (int k = 0; k < 4; k++) {
                    due("needs(" + other + ", " + k + ") with constructor " + (4 + j), x.needs(other, k), j == k);
                }
                takeBack(x, other, 1);
            }
        }
    }

    // ---- Declared types

    private static void atMostFourTypes() {
        sentence = "There are at most four declared types 0 .. 3, declared in this order";
        KindJudge x = new KindJudge();
        for (int i = 0; i < 4; i++) {
            due("parameters(" + i + ") before", x.parameters(i), -1);
            due("declare number " + i, x.declare(i % 2), i);
            due("parameters(" + i + ") after", x.parameters(i), i % 2);
        }
        due("a fifth one", x.declare(0), -2);
        due("parameters(4)", x.parameters(4), -1);
        due("types()", x.types(), 4);
    }

    private static void noneToTwoParameters() {
        sentence = "each with 0, 1 or 2 parameters";
        for (int count = 0; count <= 2; count++) {
            KindJudge x = declared(count);
            due("parameters(0)", x.parameters(0), count);
            for (int p = 0; p < 3; p++) {
                due("kind(0, " + p + ") of " + count, x.kind(0, p), p < count ? 0 : -1);
            }
        }
        due("declare(-1)", new KindJudge().declare(-1), -1);
        due("declare(3)", new KindJudge().declare(3), -1);
    }

    private static void atMostSixParameters() {
        sentence = "all together have at most six parameters";
        for (int n = 0; n < 243; n++) {
            int[] row = {n / 81, n / 27 % 3, n / 9 % 3, n / 3 % 3, n % 3};
            KindJudge x = new KindJudge();
            int types = 0;
            int total = 0;
            for (int count : row) {
                boolean room = types < 4 && total + count <= 6;
                due(Arrays.toString(row) + ", declare(" + count + ")", x.declare(count), room ? types : -2);
                types += room ? 1 : 0;
                total += room ? count : 0;
            }
            due(Arrays.toString(row) + ", types()", x.types(), types);
        }
    }

    // ---- Expressions

    private static void applyIsFollowedByFThenA() {
        sentence = "APPLY: followed by an expression f and then an expression a, it says f applied to a";
        due("1 applied to 0", wellWith(0, 0, 4, 3), true);
        due("0 applied to 1", wellWith(0, 0, 3, 4), false);
        due("3 applied to 1", wellWith(0, 0, 6, 4), true);
        due("1 applied to 3", wellWith(0, 0, 4, 6), false);
        due("2 applied to 0, then to 0", wellWith(0, 0, 0, 5, 3, 3), true);
        due("2 applied to (0 to 0)", wellWith(0, 0, 5, 0, 3, 3), false);
        due("1 applied to (1 to 0)", wellWith(0, 0, 4, 0, 4, 3), true);
        due("1 applied to 1, then to 0", wellWith(0, 0, 0, 4, 4, 3), false);
        due("3 applied to (2 to 0)", wellWith(0, 0, 6, 0, 5, 3), true);
        KindJudge x = declared(2);
        write(x, 0, 0, 1, 2);
        dueKinds("parameter 0 applied to parameter 1", x, 0, 1, 0);
        KindJudge y = declared(2);
        write(y, 0, 0, 2, 1);
        dueKinds("parameter 1 applied to parameter 0", y, 0, 0, 1);
    }

    private static void parametersOfTheTypeInWhichTheyStand() {
        sentence = "token 1 or 2: parameter 0 or 1 of the type in whose declaration it stands";
        KindJudge x = declared(2, 2, 2);
        write(x, 0, 0, 1, 3, 0, 2, 4);
        write(x, 1, 0, 0, 2, 3, 3);
        write(x, 2, 0, 0, 1, 3, 3, 0, 2, 3);
        dueKinds("of the first", x, 0, 1, 3);
        dueKinds("of the middle one", x, 1, 0, 2);
        dueKinds("of the last", x, 2, 2, 1);
        dueCould("parameter 0 of the middle one is free", x, 1, 0, 0, 1, 2, 3);
    }

    private static void tokensOfConstructors() {
        sentence = "token 3 + c, c in 0 .. 7: constructor c";
        KindJudge x = declared(0, 1, 2, 0);
        write(x, 0, 3);
        write(x, 0, 0, 4, 3);
        write(x, 0, 0, 0, 5, 3, 3);
        write(x, 0, 0, 6, 4);
        due("the built-in ones", x.well(0), true);
        write(x, 3, 7);
        write(x, 3, 0, 8, 3);
        write(x, 3, 0, 0, 9, 3, 3);
        write(x, 3, 10);
        due("the declared ones", x.well(3), true);
        for (int j = 0; j < 4; j++) {
            due("needs(3, " + j + ")", x.needs(3, j), true);
            due("needs(0, " + j + ")", x.needs(0, j), false);
        }
        due("token 11 is none", x.token(3, 11), -1);
    }

    // ---- Lists and fields

    private static void atMostTwentyTokens() {
        sentence = "A declared type has a list of at most 20 tokens";
        KindJudge x = declared(2, 2, 2, 0);
        for (int n = 1; n <= 20; n++) {
            for (int i = 0; i < 4; i++) {
                due("token " + n + " of type " + i, x.token(i, 3 + (n + i) % 4), n);
            }
        }
        for (int i = 0; i < 4; i++) {
            due("token 21 of type " + i, x.token(i, 3), -2);
        }
        for (int n = 20; n >= 1; n--) {
            for (int i = 0; i < 4; i++) {
                due("token " + n + " of type " + i + " is still there", x.back(i), 3 + (n + i) % 4);
            }
        }
    }

    /** What token() and fields() answer after each token of a row: one digit in base 36 each. */
    private static void dueFields(String what, String want, int... row) {
        KindJudge x = declared(2);
        for (int n = 0; n < row.length; n++) {
            int count = Character.digit(want.charAt(n), 36);
            due(what + ": token " + (n + 1), x.token(0, row[n]), count);
            due(what + ": fields(0) after token " + (n + 1), x.fields(0), count);
        }
        for (int n = row.length - 1; n >= 0; n--) {
            int count = n == 0 ? 0 : Character.digit(want.charAt(n - 1), 36);
            due(what + ": back(0)", x.back(0), row[n]);
            due(what + ": fields(0) with " + n + " tokens", x.fields(0), count);
        }
    }

    private static void rowOfExpressions() {
        sentence = "the list is a row of expressions, one after the other, the last of which may be unfinished";
        due("no tokens", declared(2).fields(0), 0);
        dueFields("one APPLY", "0", 0);
        dueFields("one leaf", "1", 2);
        dueFields("leaves alone", "123456789abcdefghijk", 1, 2, 3, 4, 5, 6, 7, 1, 2, 3, 4, 5, 6, 7, 1, 2, 3, 4, 5, 6);
        dueFields("APPLYs alone", "00000000000000000000", 0, 0, 0, 0, 0, 0, 0, 0, 0, 0, 0, 0, 0, 0, 0, 0, 0, 0, 0, 0);
        dueFields("the deepest f", "00000000000000000012", 0, 0, 0, 0, 0, 0, 0, 0, 0, 3, 3, 3, 3, 3, 3, 3, 3, 3, 3, 3);
        dueFields("the deepest a", "00000000000000000011", 0, 3, 0, 3, 0, 3, 0, 3, 0, 3, 0, 3, 0, 3, 0, 3, 0, 3, 3, 0);
        dueFields("the longest, last", "11111111111111111112", 7, 0, 0, 0, 0, 0, 0, 0, 0, 0, 7, 7, 7, 7, 7, 7, 7, 7, 7, 7);
        dueFields("one leaf too few", "00000000000000000000", 0, 0, 0, 0, 0, 0, 0, 0, 0, 0, 3, 3, 3, 3, 3, 3, 3, 3, 3, 3);
        dueFields("short ones in a row", "00111222223334555666", 0, 1, 2, 0, 4, 1, 0, 0, 5, 1, 2, 0, 6, 4, 1, 0, 4, 3, 0, 0);
    }

    private static void unfinishedOnesDoNotCount() {
        sentence = "an unfinished one does not count for anything below";
        int[][] tails = {
            {0}, {0, 0}, {0, 3}, {0, 4}, {0, 7}, {0, 8}, {0, 9}, {0, 1}, {0, 0, 7, 3}, {0, 0, 9, 8}, {0, 0, 1, 1}, {0, 0, 0, 3, 3, 3},
            {0, 1, 0, 8}, {0, 8, 0, 9}, {0, 9, 0, 0, 7, 9}, {0, 0, 0, 0, 0, 0, 0, 0, 0, 0, 0, 0, 0, 0, 0},
        };
        for (int i = 0; i < 3; i++) {
            String want = answers(threeTypes());
            for (int[] tail : tails) {
                KindJudge x = threeTypes();
                write(x, i, tail);
                due("the same with " + Arrays.toString(tail) + " after type " + i, answers(x).equals(want), true);
            }
        }
        KindJudge x = threeTypes();
        write(x, 2, 0, 6);
        due("well before the last token", x.well(2), true);
        write(x, 2, 3);
        due("well after the last token", x.well(2), false);
        takeBack(x, 2, 1);
        due("well without the last token", x.well(2), true);
    }

    private static KindJudge threeTypes() {
        KindJudge x = declared(2, 1, 1);
        write(x, 0, 0, 1, 2);
        write(x, 1, 0, 0, 7, 1, 3);
        write(x, 2, 1, 0, 8, 4);
        return x;
    }

    // ---- Needs and groups

    private static void needsWhereAConstructorOccurs() {
        sentence = "Type i NEEDS type j when constructor 4 + j occurs in a field of i";
        int[][] rows = {
            {8}, {0, 8, 3}, {0, 3, 8}, {0, 0, 8, 3, 3}, {0, 0, 3, 8, 3}, {0, 0, 3, 3, 8}, {0, 3, 0, 3, 8}, {8, 3}, {3, 8}, {8, 0, 3},
            {3, 3, 3, 3, 3, 3, 3, 3, 3, 3, 3, 3, 3, 3, 3, 3, 3, 3, 3, 8},
            {8, 3, 3, 3, 3, 3, 3, 3, 3, 3, 3, 3, 3, 3, 3, 3, 3, 3, 3, 3},
            {8, 0, 0, 0, 0, 0, 0, 0, 0, 0, 0, 0, 0, 0, 0, 0, 0, 0, 0, 0},
            {3, 0, 0, 0, 0, 0, 0, 0, 0, 0, 3, 3, 3, 3, 3, 3, 3, 3, 3, 8},
        };
        for (int[] row : rows) {
            KindJudge x = declared(0, 0, 0);
            write(x, 0, row);
            for (int n = 0; n < 9; n++) {
                due("needs(" + n / 3 + ", " + n % 3 + ") with " + Arrays.toString(row), x.needs(n / 3, n % 3), n == 1);
            }
        }
        int[][] without = {{}, {3, 4, 5, 6}, {0, 8}, {3, 0, 8}, {0, 0, 8, 8}, {1, 2}, {0, 1, 2}};
        for (int[] row : without) {
            KindJudge x = declared(2, 0);
            write(x, 0, row);
            due("needs(0, 1) with " + Arrays.toString(row), x.needs(0, 1), false);
            due("needs(0, 0) with " + Arrays.toString(row), x.needs(0, 0), false);
        }
    }

    private static void needingGoesOn() {
        sentence = "whatever a needed type needs is needed too";
        for (int[] order : ordersOfFour()) {
            KindJudge x = declared(0, 0, 0, 0);
            for (int n = 2; n >= 0; n--) {
                write(x, order[n], 7 + order[n + 1]);
            }
            for (int n = 0; n < 16; n++) {
                due("needs in the chain " + Arrays.toString(order), x.needs(order[n / 4], order[n % 4]), n / 4 < n % 4);
            }
            takeBack(x, order[1], 1);
            for (int n = 0; n < 16; n++) {
                boolean want = n == 1 || n == 11;
                due("needs in the broken chain " + Arrays.toString(order), x.needs(order[n / 4], order[n % 4]), want);
            }
        }
    }

    private static void groupIsMutualNeed() {
        sentence = "The GROUP of i is i together with all types j such that i needs j and j needs i";
        for (int[] order : ordersOfFour()) {
            KindJudge x = declared(0, 0, 0, 0);
            for (int n = 0; n < 3; n++) {
                write(x, order[n], 7 + order[n + 1]);
            }
            for (int i = 0; i < 4; i++) {
                due("group(" + i + ") in the chain " + Arrays.toString(order), x.group(i), i);
            }
            // The circle is closed over the last two, the last three and all four.
            for (int first = 2; first >= 0; first--) {
                write(x, order[3], 7 + order[first]);
                int least = Arrays.stream(order, first, 4).min().getAsInt();
                for (int n = 0; n < 4; n++) {
                    due("group(" + order[n] + ") in the circle of " + (4 - first) + " of " + Arrays.toString(order),
                        x.group(order[n]), n < first ? order[n] : least);
                }
            }
        }
    }

    private static void groupWithoutNeed() {
        sentence = "The GROUP of i is i together with ...: i itself, needed or not";
        KindJudge x = declared(0, 0);
        due("group(1), needs nothing", x.group(1), 1);
        write(x, 1, 8);
        due("group(1), needs itself", x.group(1), 1);
        write(x, 1, 7);
        due("group(1), needs type 0", x.group(1), 1);
        write(x, 0, 8);
        due("group(1), each needs the other", x.group(1), 0);
        due("group(0), each needs the other", x.group(0), 0);
    }

    // ---- Settling

    private static void neededGroupsFirst() {
        sentence = "Groups are settled one by one, every group after the other groups that its types need";
        for (int[] order : ordersOfFour()) {
            KindJudge x = declared(1, 1, 1, 1);
            for (int n = 0; n < 3; n++) {
                write(x, order[n], 0, 7 + order[n + 1], 1);
            }
            int[][] last = {{0, 1, 3}, {0, 0, 1, 3, 3}, {0, 1, 4}};
            for (int k = 1; k <= 3; k++) {
                write(x, order[3], last[k - 1]);
                for (int i = 0; i < 4; i++) {
                    dueKinds("in the chain " + Arrays.toString(order), x, i, k);
                    dueCould("in the chain " + Arrays.toString(order), x, i, 0, k);
                }
                takeBack(x, order[3], last[k - 1].length);
            }
        }
    }

    private static void kindsOfTypes() {
        sentence = "a type with no parameters has kind *, .. (k -> *), .. (k -> (m -> *))";
        int[][] asks = {{1}, {0, 1, 3}, {0, 0, 1, 3, 3}, {0, 1, 4}};
        int[][] asksSecond = {{2}, {0, 2, 3}, {0, 0, 2, 3, 3}, {0, 2, 4}};
        KindJudge none = declared(0);
        for (int d = 0; d < 4; d++) {
            due("none: applied(4, " + d + ")", none.applied(4, d), -1);
            due("none: applied(" + d + ", 4)", none.applied(d, 4), d == 1 ? 0 : d == 2 ? 1 : -1);
        }
        for (int k = 0; k < 4; k++) {
            KindJudge one = declared(1);
            write(one, 0, asks[k]);
            for (int d = 0; d < 4; d++) {
                due("one of kind " + k + ": applied(4, " + d + ")", one.applied(4, d), d == k ? 0 : -1);
                due("one of kind " + k + ": applied(" + d + ", 4)", one.applied(d, 4), d == 3 && k == 0 ? 0 : -1);
            }
            for (int m = 0; m < 4; m++) {
                // (m -> *) has the numbers 1 and 3 for m = 0 and 1, and else none.
                int rest = m == 0 ? 1 : m == 1 ? 3 : -1;
                KindJudge two = declared(2, 0);
                write(two, 0, asks[k]);
                write(two, 0, asksSecond[m]);
                dueKinds("two", two, 0, k, m);
                for (int d = 0; d < 4; d++) {
                    due("two of kinds " + k + ", " + m + ": applied(4, " + d + ")", two.applied(4, d), d == k ? rest : -1);
                    for (int e = 0; e < 4; e++) {
                        write(two, 1, 0, 0, 7, 3 + d, 3 + e);
                        due("two of kinds " + k + ", " + m + " applied to " + d + ", " + e, two.well(1), d == k && e == m);
                        takeBack(two, 1, 5);
                    }
                }
            }
        }
    }

    private static void settledKindsStay() {
        sentence = "Types of groups settled before have the kinds that were settled";
        KindJudge x = declared(1, 1);
        dueCould("free", x, 0, 0, 0, 1, 2, 3);
        for (int c = 0; c < 4; c++) {
            write(x, 1, 0, 7, 3 + c);
            due("type 0, settled as 0, applied to constructor " + c, x.well(1), c == 0);
            takeBack(x, 1, 3);
        }
        write(x, 1, 0, 7, 1);
        dueKinds("as was settled", x, 1, 0);
        dueCould("no longer free", x, 1, 0, 0);
        dueCould("still free", x, 0, 0, 0, 1, 2, 3);
        write(x, 0, 0, 8, 1);
        dueCould("free in one group", x, 1, 0, 0, 1, 2, 3);
    }

    private static void kindOfAnApplication() {
        sentence = "f applied to a has kind m when f has a kind (k -> m) and a has the kind k; otherwise it has none";
        int[] kinds = {0, 1, 2, 3};
        int[][] result = {{-1, -1, -1, -1}, {0, -1, -1, -1}, {1, -1, -1, -1}, {-1, 0, -1, -1}};
        for (int f : kinds) {
            for (int a : kinds) {
                due(f + " applied to " + a + " is *", wellWith(0, 0, 3 + f, 3 + a), result[f][a] == 0);
                due(f + " applied to " + a + " is (* -> *)", wellWith(0, 0, 0, 3 + f, 3 + a, 3), result[f][a] == 1);
                for (int b : kinds) {
                    int inner = result[f][a];
                    due("(" + f + " to " + a + ") to " + b, wellWith(0, 0, 0, 3 + f, 3 + a, 3 + b), inner >= 0 && result[inner][b] == 0);
                    due(b + " to (" + f + " to " + a + ")", wellWith(0, 0, 3 + b, 0, 3 + f, 3 + a), inner >= 0 && result[b][inner] == 0);
                }
            }
        }
        // What has no kind is no argument either, and two expressions without a kind are not of one kind.
        due("a parameter applied to what has no kind", wellWith(1, 0, 1, 0, 3, 3), false);
        due("what has no kind applied to the like", wellWith(1, 0, 0, 3, 3, 0, 3, 3), false);
        due("a type applied to what has no kind", wellWith(1, 0, 7, 0, 1, 1), false);
    }

    private static void everyFieldMustFit() {
        sentence = "A choice FITS when every field of every type of the group has the kind *";
        due("no fields", wellWith(2), true);
        for (int bad = -1; bad < 20; bad++) {
            KindJudge x = declared(1);
            for (int n = 0; n < 20; n++) {
                write(x, 0, n == bad ? 4 : 3);
            }
            due("twenty fields, of which number " + bad + " is not *", x.well(0), bad < 0);
        }
        for (int bad = 0; bad < 4; bad++) {
            KindJudge x = declared(0, 0, 0, 0);
            for (int i = 0; i < 4; i++) {
                write(x, i, 7 + (i + 1) % 4);
            }
            for (int i = 0; i < 4; i++) {
                due("a circle: well(" + i + ")", x.well(i), true);
            }
            write(x, bad, 5);
            for (int i = 0; i < 4; i++) {
                due("a circle with a bad field of type " + bad + ": well(" + i + ")", x.well(i), false);
            }
        }
        due("two fields that ask for the same", wellWith(1, 0, 1, 3, 0, 1, 0, 1, 3), true);
        due("two fields that ask for different kinds", wellWith(1, 0, 1, 3, 0, 1, 4), false);
        due("the longest field, right", wellWith(0, 0, 4, 0, 4, 0, 4, 0, 4, 0, 4, 0, 4, 0, 4, 0, 4, 0, 4, 3), true);
        due("the longest field, wrong at its end", wellWith(0, 0, 4, 0, 4, 0, 4, 0, 4, 0, 4, 0, 4, 0, 4, 0, 4, 0, 4, 4), false);
        due("the longest field, wrong at its start", wellWith(0, 0, 6, 0, 4, 0, 4, 0, 4, 0, 4, 0, 4, 0, 4, 0, 4, 0, 4, 3), false);
    }

    private static void neededGroupsMustBeWell() {
        sentence = "A group is WELL when no type of the group needs a type of another group that is not well";
        for (int[] order : ordersOfFour()) {
            for (int bad = 0; bad < 4; bad++) {
                KindJudge x = declared(0, 0, 0, 0);
                for (int n = 0; n < 3; n++) {
                    write(x, order[n], 7 + order[n + 1]);
                }
                write(x, order[bad], 4);
                for (int n = 0; n < 4; n++) {
                    due("well in the chain " + Arrays.toString(order) + " with a bad field of " + order[bad], x.well(order[n]), n > bad);
                }
            }
        }
        // Of two types in a group only one needs the type that is not well, and not for its fields' kinds.
        KindJudge x = declared(1, 0, 0);
        write(x, 0, 4);
        write(x, 1, 9);
        write(x, 2, 8, 0, 7, 3);
        due("well(1)", x.well(1), false);
        due("well(2)", x.well(2), false);
        takeBack(x, 0, 1);
        due("well(1) after the field is gone", x.well(1), true);
        due("well(2) after the field is gone", x.well(2), true);
        due("well(0), that needs none", x.well(0), true);
    }

    private static void leastChoice() {
        sentence = "The settled choice is then the one, of those, whose kind numbers are least in the dictionary order";
        KindJudge free = declared(2, 2, 2);
        for (int i = 0; i < 3; i++) {
            dueKinds("free", free, i, 0, 0);
            dueCould("free", free, i, 0, 0, 1, 2, 3);
            dueCould("free", free, i, 1, 0, 1, 2, 3);
        }
        KindJudge pairs = declared(2);
        write(pairs, 0, 0, 1, 2);
        dueKinds("of (1, 0) and (3, 1)", pairs, 0, 1, 0);
        dueCould("of (1, 0) and (3, 1)", pairs, 0, 0, 1, 3);
        dueCould("of (1, 0) and (3, 1)", pairs, 0, 1, 0, 1);
        KindJudge nested = declared(2);
        write(nested, 0, 0, 2, 0, 1, 3);
        dueKinds("of (1, 1) and (2, 3)", nested, 0, 1, 1);
        dueCould("of (1, 1) and (2, 3)", nested, 0, 0, 1, 2);
        dueCould("of (1, 1) and (2, 3)", nested, 0, 1, 1, 3);
        KindJudge group = declared(2, 2);
        write(group, 0, 0, 0, 8, 0, 1, 2, 1);
        write(group, 1, 0, 0, 7, 2, 3);
        dueKinds("of (1, 0), (0, 1) and (2, 0), (1, 2)", group, 0, 1, 0);
        dueKinds("of (1, 0), (0, 1) and (2, 0), (1, 2)", group, 1, 0, 1);
        dueCould("of (1, 0), (0, 1) and (2, 0), (1, 2)", group, 0, 0, 1, 2);
        dueCould("of (1, 0), (0, 1) and (2, 0), (1, 2)", group, 1, 0, 0, 1);
        write(group, 1, 0, 1, 3);
        dueKinds("of (2, 0), (1, 2) alone", group, 0, 2, 0);
        dueKinds("of (2, 0), (1, 2) alone", group, 1, 1, 2);
    }

    private static void greatestChoice() {
        sentence = "some choice that uses only the kinds with numbers 0 .. 3 fits: the last of all, with six parameters";
        int[][] counts = {{2, 2, 2}, {2, 2, 2, 0}, {2, 2, 1, 1}, {1, 2, 2, 1}, {0, 2, 2, 2}};
        for (int[] row : counts) {
            KindJudge x = declared(row);
            for (int i = 0; i < row.length; i++) {
                int next = (i + 1) % row.length;
                int[][] uses = {{7 + next}, {0, 7 + next, 6}, {0, 0, 7 + next, 6, 6}};
                write(x, i, uses[row[next]]);
            }
            for (int i = 0; i < row.length; i++) {
                due("group(" + i + ") of " + Arrays.toString(row), x.group(i), 0);
                for (int p = 0; p < row[i]; p++) {
                    due("kind(" + i + ", " + p + ") of " + Arrays.toString(row), x.kind(i, p), 3);
                    dueCould("of " + Arrays.toString(row), x, i, p, 3);
                }
            }
        }
    }

    public static void main(String[] args) {
        callsThatFillUp();
        callsThatComeAndGo();
        callsThatAsk();
        callsAfterTheLast();
        fourKindsHaveNumbers();
        otherKindsHaveNoNumbers();
        builtInConstructors();
        declaredConstructors();
        atMostFourTypes();
        noneToTwoParameters();
        atMostSixParameters();
        applyIsFollowedByFThenA();
        parametersOfTheTypeInWhichTheyStand();
        tokensOfConstructors();
        atMostTwentyTokens();
        rowOfExpressions();
        unfinishedOnesDoNotCount();
        needsWhereAConstructorOccurs();
        needingGoesOn();
        groupIsMutualNeed();
        groupWithoutNeed();
        neededGroupsFirst();
        kindsOfTypes();
        settledKindsStay();
        kindOfAnApplication();
        everyFieldMustFit();
        neededGroupsMustBeWell();
        leastChoice();
        greatestChoice();
        System.out.println(wrong == 0 ? "all answers are as due" : wrong + " answers are not as due");
        if (wrong != 0) {
            System.exit(1);
        }
    }
}
