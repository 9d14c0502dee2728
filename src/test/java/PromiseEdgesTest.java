// The boundaries that promises 1 to 14 name: each sentence, or part of one, has a test of its own.
public final class PromiseEdgesTest {
    private static final int BAD = -1;
    private static final int FULL = -2;

    /**
     * Numbers that no range of the document holds. Besides the least and the greatest int there are some that would
     * come back into range if an index were masked, shifted, multiplied or added to before it is looked at.
     */
    private static final int[] OUTSIDE = {
        Integer.MIN_VALUE, Integer.MIN_VALUE + 1, Integer.MIN_VALUE + 7, -858993459, -65536, -256, -32, -31, -10, -8, -7, -5, -4, -3, -2, -1,
        11, 12, 16, 20, 31, 32, 33, 64, 80, 256, 65536, 214748365, 1 << 30, Integer.MAX_VALUE - 7, Integer.MAX_VALUE - 3,
        Integer.MAX_VALUE - 1, Integer.MAX_VALUE,
    };

    private static int wrong = 0;
    private static String sentence = "";

    private static void due(String call, long got, long want) {
        if (got != want) {
            wrong++;
            System.out.println("\"" + sentence + "\": " + call + " answered " + got + ", due is " + want);
        }
    }

    private static void due(String call, boolean got, boolean want) {
        due(call, got ? 1 : 0, want ? 1 : 0);
    }

    private static KindJudge declared(int... parameters) {
        KindJudge x = new KindJudge();
        for (int i = 0; i < parameters.length; i++) {
            due("declare(" + parameters[i] + ")", x.declare(parameters[i]), i);
        }
        return x;
    }

    /** Types with no parameters. */
    private static KindJudge plain(int types) {
        return declared(new int[types]);
    }

    private static void write(KindJudge x, int i, int... row) {
        for (int token : row) {
            int got = x.token(i, token);
            due("token(" + i + ", " + token + ") is taken", got >= 0, true);
        }
    }

    private static void fill(KindJudge x, int i) {
        for (int n = 1; n <= 20; n++) {
            due("token " + n + " of type " + i, x.token(i, 3), n);
        }
    }

    /** Four types that were declared, written, settled and then forgotten, so that their traces may still be there. */
    private static KindJudge forgotten() {
        KindJudge x = declared(2, 1, 1, 2);
        write(x, 0, 0, 8, 1, 0);
        write(x, 1, 0, 9, 1, 0);
        write(x, 2, 0, 0, 10, 1, 1, 0);
        write(x, 3, 0, 0, 7, 1, 2, 0);
        for (int i = 0; i < 4; i++) {
            due("group(" + i + ") before clear()", x.group(i), 0);
            due("could(" + i + ", 0, 3) before clear()", x.could(i, 0, 3), true);
        }
        x.clear();
        return x;
    }

    // ---- Promise 1

    private static void newObject() {
        sentence = "KindJudge(): No declared types";
        KindJudge x = new KindJudge();
        due("types()", x.types(), 0);
        for (int i = 0; i < 4; i++) {
            due("parameters(" + i + ")", x.parameters(i), BAD);
            due("well(" + i + ")", x.well(i), false);
            due("applied(1, " + (4 + i) + ")", x.applied(1, 4 + i), BAD);
        }
        due("the first declare(2)", x.declare(2), 0);
        due("types() of another object", new KindJudge().types(), 0);
    }

    // ---- Promise 2

    private static void declareOutside() {
        sentence = "declare: BAD when parameters is not 0 .. 2";
        KindJudge x = new KindJudge();
        for (int parameters : OUTSIDE) {
            due("declare(" + parameters + ")", x.declare(parameters), BAD);
        }
        due("declare(-1)", x.declare(-1), BAD);
        due("declare(3)", x.declare(3), BAD);
        due("declare(4)", x.declare(4), BAD);
        due("types()", x.types(), 0);
        due("declare(0)", x.declare(0), 0);
        due("declare(2)", x.declare(2), 1);
        due("declare(1)", x.declare(1), 2);
    }

    private static void declareFullOfTypes() {
        sentence = "declare: FULL when four types are declared";
        for (int parameters = 0; parameters <= 2; parameters++) {
            KindJudge x = plain(3);
            due("declare(" + parameters + ") with three types", x.declare(parameters), 3);
            for (int more = 0; more <= 2; more++) {
                due("declare(" + more + ") with four types", x.declare(more), FULL);
            }
            due("types()", x.types(), 4);
        }
    }

    private static void declareFullOfParameters() {
        sentence = "declare: FULL when all parameters together would be more than six";
        KindJudge four = declared(2, 2);
        due("declare(2) with four parameters", four.declare(2), 2);
        due("declare(2) with six parameters", four.declare(2), FULL);
        due("declare(1) with six parameters", four.declare(1), FULL);
        due("declare(0) with six parameters", four.declare(0), 3);
        KindJudge five = declared(2, 2, 1);
        due("declare(2) with five parameters", five.declare(2), FULL);
        due("declare(1) with five parameters", five.declare(1), 3);
        KindJudge fiveOther = declared(1, 2, 2);
        due("declare(2) with five parameters", fiveOther.declare(2), FULL);
        due("declare(0) with five parameters", fiveOther.declare(0), 3);
        due("types()", fiveOther.types(), 4);
    }

    private static void declareBadBeforeFull() {
        sentence = "declare: BAD ..; then FULL";
        KindJudge[] full = {plain(4), declared(2, 2, 2), declared(2, 2, 2, 0), declared(2, 2, 1, 1)};
        for (KindJudge x : full) {
            for (int parameters : OUTSIDE) {
                due("declare(" + parameters + ")", x.declare(parameters), BAD);
            }
            due("declare(3)", x.declare(3), BAD);
            due("declare(2)", x.declare(2), FULL);
        }
    }

    private static void declareAnswersTheNumber() {
        sentence = "declare: otherwise the number of the type";
        KindJudge x = new KindJudge();
        for (int i = 0; i < 4; i++) {
            due("declare(1)", x.declare(1), i);
            due("declare(3) between", x.declare(3), BAD);
        }
        due("declare(1)", x.declare(1), FULL);
    }

    private static void declareWithNoTokens() {
        sentence = "declare: Declares a type with this many parameters and no tokens";
        KindJudge x = forgotten();
        for (int i = 0; i < 4; i++) {
            int parameters = (i + 1) % 3;
            due("declare(" + parameters + ")", x.declare(parameters), i);
            due("parameters(" + i + ")", x.parameters(i), parameters);
            due("fields(" + i + ")", x.fields(i), 0);
            due("back(" + i + ")", x.back(i), BAD);
            due("needs(" + i + ", " + i + ")", x.needs(i, i), false);
            due("well(" + i + ")", x.well(i), true);
        }
        for (int i = 0; i < 4; i++) {
            fill(x, i);
        }
    }

    // ---- Promise 3

    private static void tokenOfNoType() {
        sentence = "token: BAD when i is not declared";
        for (int types = 0; types <= 4; types++) {
            KindJudge x = plain(types);
            for (int i : OUTSIDE) {
                due("token(" + i + ", 3)", x.token(i, 3), BAD);
                due("token(" + i + ", 0)", x.token(i, 0), BAD);
            }
            for (int i = 0; i <= 5; i++) {
                due("token(" + i + ", 3) with " + types + " types", x.token(i, 3), i < types ? 1 : BAD);
            }
        }
        KindJudge x = forgotten();
        due("token(0, 3) of a forgotten type", x.token(0, 3), BAD);
        x.declare(0);
        due("token(0, 3) of a new type", x.token(0, 3), 1);
        due("token(1, 3) of a forgotten type", x.token(1, 3), BAD);
    }

    private static void tokenOutside() {
        sentence = "token: BAD when token is not 0 .. 10";
        KindJudge x = declared(2, 2, 2, 0);
        for (int i = 0; i < 4; i++) {
            for (int token : OUTSIDE) {
                due("token(" + i + ", " + token + ")", x.token(i, token), BAD);
            }
        }
        for (int i = 0; i < 3; i++) {
            due("token(" + i + ", -1)", x.token(i, -1), BAD);
            due("token(" + i + ", 11)", x.token(i, 11), BAD);
            for (int token = 10; token >= 0; token--) {
                due("token(" + i + ", " + token + ")", x.token(i, token), token == 0 ? 10 : 11 - token);
            }
        }
    }

    private static void tokenOfNoParameter() {
        sentence = "token: BAD when token .. names a parameter that type i does not have";
        KindJudge x = declared(0, 1, 2, 0);
        int[][] want = {{BAD, BAD}, {1, BAD}, {1, 2}, {BAD, BAD}};
        for (int i = 3; i >= 0; i--) {
            due("token(" + i + ", 1)", x.token(i, 1), want[i][0]);
            due("token(" + i + ", 2)", x.token(i, 2), want[i][1]);
        }
        KindJudge only = declared(2);
        due("token(0, 2) first", only.token(0, 2), 1);
        due("token(0, 1) then", only.token(0, 1), 2);
        KindJudge again = forgotten();
        again.declare(1);
        due("token(0, 2) of a type that had two parameters before clear()", again.token(0, 2), BAD);
        due("token(0, 1)", again.token(0, 1), 1);
    }

    private static void tokenOfNoConstructor() {
        sentence = "token: BAD when token names .. a constructor 4 + j whose type j is not declared";
        KindJudge x = new KindJudge();
        for (int types = 1; types <= 4; types++) {
            due("declare(0)", x.declare(0), types - 1);
            for (int i = 0; i < types; i++) {
                for (int token = 3; token <= 10; token++) {
                    int taken = token < 7 + types ? 1 : BAD;
                    due("token(" + i + ", " + token + ") with " + types + " types", x.token(i, token), taken);
                    due("back(" + i + ")", x.back(i), taken == BAD ? BAD : token);
                }
            }
        }
        KindJudge again = forgotten();
        again.declare(0);
        due("token(0, 7)", again.token(0, 7), 1);
        due("token(0, 8) of a forgotten type", again.token(0, 8), BAD);
        due("token(0, 10) of a forgotten type", again.token(0, 10), BAD);
    }

    private static void tokenFull() {
        sentence = "token: FULL when the list has 20 tokens";
        for (int i = 0; i < 4; i++) {
            KindJudge x = declared(2, 2, 2, 0);
            fill(x, i);
            for (int token = 0; token <= 10; token++) {
                boolean hasIt = token == 0 || token >= 3 || i < 3;
                due("token(" + i + ", " + token + ") in a full list", x.token(i, token), hasIt ? FULL : BAD);
            }
            for (int j = 0; j < 4; j++) {
                due("token(" + j + ", 0) beside the full list of type " + i, x.token(j, 0), j == i ? FULL : 0);
            }
            due("fields(" + i + ")", x.fields(i), 20);
        }
        KindJudge open = declared(0);
        for (int n = 1; n <= 20; n++) {
            due("APPLY number " + n, open.token(0, 0), 0);
        }
        due("a token that would go on", open.token(0, 3), FULL);
    }

    private static void tokenBadBeforeFull() {
        sentence = "token: by the first that applies: BAD ..; BAD ..; FULL";
        KindJudge x = declared(0, 1);
        fill(x, 0);
        fill(x, 1);
        for (int n : OUTSIDE) {
            due("token(0, " + n + ") in a full list", x.token(0, n), BAD);
            due("token(" + n + ", 3) beside full lists", x.token(n, 3), BAD);
        }
        due("token(2, 3), not declared", x.token(2, 3), BAD);
        due("token(0, 11) in a full list", x.token(0, 11), BAD);
        due("token(0, 1) in a full list without parameters", x.token(0, 1), BAD);
        due("token(1, 2) in a full list with one parameter", x.token(1, 2), BAD);
        due("token(0, 9) in a full list, type 2 not declared", x.token(0, 9), BAD);
        due("token(1, 1) in a full list with one parameter", x.token(1, 1), FULL);
        due("token(0, 8) in a full list, type 1 declared", x.token(0, 8), FULL);
        due("declare(0)", x.declare(0), 2);
        due("token(0, 9) in a full list, type 2 declared now", x.token(0, 9), FULL);
    }

    private static void tokenAnswersTheFields() {
        sentence = "token: otherwise the number of fields of type i now";
        KindJudge x = declared(1, 0);
        int[] row = {3, 0, 1, 3, 1, 0, 0, 5, 3, 0, 4, 3, 0, 8};
        int[] want = {1, 1, 1, 2, 3, 3, 3, 3, 3, 3, 3, 4, 4, 4};
        for (int n = 0; n < row.length; n++) {
            due("token " + (n + 1), x.token(0, row[n]), want[n]);
            due("token " + (n + 1) + " of the other type", x.token(1, 3), n + 1);
        }
    }

    // ---- Promise 4

    private static void backOfNoType() {
        sentence = "back: BAD when i is not declared";
        for (int types = 0; types <= 4; types++) {
            KindJudge x = plain(types);
            for (int i = 0; i < types; i++) {
                write(x, i, 3, 4);
            }
            for (int i : OUTSIDE) {
                due("back(" + i + ")", x.back(i), BAD);
            }
            for (int i = 0; i <= 5; i++) {
                due("back(" + i + ") with " + types + " types", x.back(i), i < types ? 4 : BAD);
            }
        }
        KindJudge x = forgotten();
        for (int i = 0; i < 4; i++) {
            due("back(" + i + ") of a forgotten type", x.back(i), BAD);
        }
    }

    private static void backOfNoTokens() {
        sentence = "back: BAD when i .. has no tokens";
        for (int i = 0; i < 4; i++) {
            KindJudge x = plain(4);
            for (int j = 0; j < 4; j++) {
                if (j != i) {
                    fill(x, j);
                }
            }
            due("back(" + i + ") of a new type", x.back(i), BAD);
            due("back(" + i + ") again", x.back(i), BAD);
            due("the first token", x.token(i, 0), 0);
            due("back(" + i + ") of the only token", x.back(i), 0);
            due("back(" + i + ") with none left", x.back(i), BAD);
            for (int j = 0; j < 4; j++) {
                due("fields(" + j + ")", x.fields(j), j == i ? 0 : 20);
            }
        }
    }

    private static void backAnswersTheLastToken() {
        sentence = "back: Takes the last token of type i away and answers it";
        KindJudge x = declared(2, 2, 2, 0);
        for (int token = 0; token <= 10; token++) {
            write(x, 2, token);
            due("back(2)", x.back(2), token);
        }
        int[] row = {0, 1, 2, 3, 4, 5, 6, 7, 8, 9, 10, 0, 0, 10, 9, 1, 2, 0, 7, 0};
        write(x, 0, row);
        write(x, 1, 4);
        for (int n = 19; n >= 0; n--) {
            due("back(0) with " + (n + 1) + " tokens", x.back(0), row[n]);
        }
        due("back(0) with no tokens", x.back(0), BAD);
        due("back(1), another list", x.back(1), 4);
    }

    private static void backMakesRoom() {
        sentence = "back: Takes the last token of type i away (and the list has room again)";
        KindJudge x = declared(1);
        fill(x, 0);
        for (int n = 0; n < 3; n++) {
            due("token(0, 4), full", x.token(0, 4), FULL);
            due("back(0)", x.back(0), n == 0 ? 3 : 1);
            due("fields(0)", x.fields(0), 19);
            due("token(0, 1), room for one", x.token(0, 1), 20);
        }
        due("back(0)", x.back(0), 1);
        due("back(0)", x.back(0), 3);
        due("token(0, 0)", x.token(0, 0), 18);
        due("token(0, 3), the last one", x.token(0, 3), 18);
        due("token(0, 3), full", x.token(0, 3), FULL);
    }

    // ---- Promises 5 to 7

    private static void types() {
        sentence = "types: The number of declared types";
        KindJudge x = new KindJudge();
        for (int n = 0; n <= 4; n++) {
            due("types()", x.types(), n);
            x.declare(-1);
            due("types() after a BAD", x.types(), n);
            x.declare(1);
        }
        due("types() after a FULL", x.types(), 4);
        x.clear();
        due("types() after clear()", x.types(), 0);
    }

    private static void parametersOfNoType() {
        sentence = "parameters: BAD when i is not declared";
        int[] counts = {2, 0, 1, 2};
        KindJudge x = new KindJudge();
        for (int types = 0; types <= 4; types++) {
            for (int i : OUTSIDE) {
                due("parameters(" + i + ")", x.parameters(i), BAD);
            }
            for (int i = 0; i <= 5; i++) {
                due("parameters(" + i + ") with " + types + " types", x.parameters(i), i < types ? counts[i] : BAD);
            }
            x.declare(types < 4 ? counts[types] : 0);
        }
        due("parameters(0) of a forgotten type", forgotten().parameters(0), BAD);
    }

    private static void fieldsOfNoType() {
        sentence = "fields: BAD when i is not declared";
        KindJudge x = new KindJudge();
        for (int types = 0; types <= 4; types++) {
            for (int i : OUTSIDE) {
                due("fields(" + i + ")", x.fields(i), BAD);
            }
            for (int i = 0; i <= 5; i++) {
                due("fields(" + i + ") with " + types + " types", x.fields(i), i < types ? i : BAD);
            }
            x.declare(0);
            for (int n = 0; n < types && types < 4; n++) {
                write(x, types, 3);
            }
        }
        due("fields(0) of a forgotten type", forgotten().fields(0), BAD);
    }

    private static void fieldsOfAList() {
        sentence = "fields: The number of fields of type i";
        KindJudge x = declared(0, 0);
        due("no tokens", x.fields(0), 0);
        write(x, 0, 0);
        due("an unfinished one alone", x.fields(0), 0);
        write(x, 0, 4);
        due("an unfinished one still", x.fields(0), 0);
        write(x, 0, 3);
        due("finished", x.fields(0), 1);
        write(x, 0, 0, 3);
        due("one and an unfinished one", x.fields(0), 1);
        due("the other type", x.fields(1), 0);
        fill(x, 1);
        due("a full list of leaves", x.fields(1), 20);
        due("the first type", x.fields(0), 1);
    }

    // ---- Promises 8 to 10

    private static void needsOfNoType() {
        sentence = "needs: false when i or j is not declared";
        for (int types = 0; types <= 4; types++) {
            KindJudge x = plain(types);
            for (int n = 0; n < types * types; n++) {
                write(x, n / types, 7 + n % types);
            }
            for (int i = 0; i <= 5; i++) {
                for (int j = 0; j <= 5; j++) {
                    due("needs(" + i + ", " + j + ") with " + types + " types", x.needs(i, j), i < types && j < types);
                }
            }
            for (int n : OUTSIDE) {
                due("needs(" + n + ", 0)", x.needs(n, 0), false);
                due("needs(0, " + n + ")", x.needs(0, n), false);
                due("needs(" + n + ", " + n + ")", x.needs(n, n), false);
            }
        }
        KindJudge x = forgotten();
        due("needs(0, 1) of forgotten types", x.needs(0, 1), false);
        x.declare(0);
        write(x, 0, 7);
        due("needs(0, 0)", x.needs(0, 0), true);
        due("needs(0, 1) with a forgotten type", x.needs(0, 1), false);
        due("needs(1, 0) with a forgotten type", x.needs(1, 0), false);
    }

    private static void needsItself() {
        sentence = "needs: (A type may need itself.)";
        for (int i = 0; i < 4; i++) {
            KindJudge x = plain(4);
            due("needs(" + i + ", " + i + ") with no tokens", x.needs(i, i), false);
            write(x, i, 7 + i);
            for (int n = 0; n < 16; n++) {
                due("needs(" + n / 4 + ", " + n % 4 + ")", x.needs(n / 4, n % 4), n == i * 5);
            }
            due("back", x.back(i), 7 + i);
            due("needs(" + i + ", " + i + ") after back", x.needs(i, i), false);
            int other = (i + 1) % 4;
            write(x, i, 7 + other);
            due("needs(" + i + ", " + i + ") one way", x.needs(i, i), false);
            write(x, other, 7 + i);
            due("needs(" + i + ", " + i + ") through another", x.needs(i, i), true);
        }
    }

    private static void groupOfNoType() {
        sentence = "group: BAD when i is not declared";
        for (int types = 0; types <= 4; types++) {
            KindJudge x = plain(types);
            for (int i : OUTSIDE) {
                due("group(" + i + ")", x.group(i), BAD);
            }
            for (int i = 0; i <= 5; i++) {
                due("group(" + i + ") with " + types + " types", x.group(i), i < types ? i : BAD);
            }
        }
        KindJudge x = forgotten();
        due("group(0) of a forgotten type", x.group(0), BAD);
        x.declare(0);
        x.declare(0);
        due("group(1) of a new type", x.group(1), 1);
        due("group(2) of a forgotten type", x.group(2), BAD);
    }

    private static void groupAnswersTheLeast() {
        sentence = "group: The least number of a type in the group of i";
        for (int low = 0; low < 4; low++) {
            for (int high = low + 1; high < 4; high++) {
                KindJudge x = plain(4);
                write(x, high, 7 + low);
                due("group(" + high + "), one way", x.group(high), high);
                write(x, low, 7 + high);
                for (int i = 0; i < 4; i++) {
                    due("group(" + i + ") with " + low + " and " + high + " together", x.group(i), i == high ? low : i);
                }
            }
        }
    }

    private static void wellOfNoType() {
        sentence = "well: false when i is not declared";
        for (int types = 0; types <= 4; types++) {
            KindJudge x = plain(types);
            for (int i : OUTSIDE) {
                due("well(" + i + ")", x.well(i), false);
            }
            for (int i = 0; i <= 5; i++) {
                due("well(" + i + ") with " + types + " types", x.well(i), i < types);
            }
        }
        KindJudge x = plain(4);
        due("well(3)", x.well(3), true);
        x.clear();
        due("well(0) of a forgotten type", x.well(0), false);
        x.declare(0);
        due("well(0) of a new type", x.well(0), true);
        due("well(1) of a forgotten type", x.well(1), false);
    }

    // ---- Promises 11 and 12

    private static void kindOfNoParameter() {
        sentence = "kind: BAD when i is not declared, has no parameter p";
        int[] counts = {1, 2, 0, 2};
        for (int types = 0; types <= 4; types++) {
            KindJudge x = new KindJudge();
            for (int i = 0; i < types; i++) {
                due("declare", x.declare(counts[i]), i);
            }
            for (int i = -2; i <= 5; i++) {
                for (int p = -2; p <= 3; p++) {
                    boolean has = i >= 0 && i < types && p >= 0 && p < counts[i];
                    due("kind(" + i + ", " + p + ") with " + types + " types", x.kind(i, p), has ? 0 : BAD);
                }
            }
            for (int n : OUTSIDE) {
                due("kind(" + n + ", 0)", x.kind(n, 0), BAD);
                due("kind(1, " + n + ")", x.kind(1, n), BAD);
                due("kind(" + n + ", " + n + ")", x.kind(n, n), BAD);
            }
        }
        due("kind(0, 0) of a forgotten type", forgotten().kind(0, 0), BAD);
    }

    private static void kindOfNoWellGroup() {
        sentence = "kind: BAD when .. its group is not well";
        KindJudge x = declared(2, 1, 1);
        write(x, 0, 0, 1, 2);
        write(x, 1, 0, 0, 7, 4, 1);
        due("kind(0, 0)", x.kind(0, 0), 1);
        due("kind(1, 0)", x.kind(1, 0), 0);
        write(x, 0, 4);
        due("kind(0, 0) with a field that is not *", x.kind(0, 0), BAD);
        due("kind(0, 1) with a field that is not *", x.kind(0, 1), BAD);
        due("kind(1, 0), that needs it", x.kind(1, 0), BAD);
        due("kind(2, 0), that does not", x.kind(2, 0), 0);
        due("back(0)", x.back(0), 4);
        due("kind(0, 0) without that field", x.kind(0, 0), 1);
        due("kind(1, 0) without that field", x.kind(1, 0), 0);
    }

    private static void couldOfNoParameter() {
        sentence = "could: False when i is not declared, has no parameter p, k is not 0 .. 3";
        int[] counts = {1, 2, 0, 2};
        for (int types = 0; types <= 4; types++) {
            KindJudge x = new KindJudge();
            for (int i = 0; i < types; i++) {
                due("declare", x.declare(counts[i]), i);
            }
            for (int i = -1; i <= 4; i++) {
                for (int p = -1; p <= 2; p++) {
                    for (int k = -1; k <= 4; k++) {
                        boolean has = i >= 0 && i < types && p >= 0 && p < counts[i] && k >= 0 && k < 4;
                        due("could(" + i + ", " + p + ", " + k + ") with " + types + " types", x.could(i, p, k), has);
                    }
                }
            }
            for (int n : OUTSIDE) {
                due("could(" + n + ", 0, 0)", x.could(n, 0, 0), false);
                due("could(0, " + n + ", 0)", x.could(0, n, 0), false);
                due("could(0, 0, " + n + ")", x.could(0, 0, n), false);
                due("could(" + n + ", " + n + ", " + n + ")", x.could(n, n, n), false);
            }
        }
        due("could(0, 0, 0) of a forgotten type", forgotten().could(0, 0, 0), false);
    }

    private static void couldOfNoWellGroup() {
        sentence = "could: False when .. the group is not well";
        KindJudge x = declared(1, 1, 2);
        write(x, 2, 0, 1, 2);
        write(x, 1, 0, 7, 3);
        for (int k = 0; k < 4; k++) {
            due("could(0, 0, " + k + ")", x.could(0, 0, k), true);
            due("could(1, 0, " + k + ")", x.could(1, 0, k), true);
        }
        write(x, 0, 5);
        for (int k = 0; k < 4; k++) {
            due("could(0, 0, " + k + ") with a field that is not *", x.could(0, 0, k), false);
            due("could(1, 0, " + k + "), that needs it", x.could(1, 0, k), false);
            due("could(2, 0, " + k + "), that does not", x.could(2, 0, k), k == 1 || k == 3);
            due("could(2, 1, " + k + "), that does not", x.could(2, 1, k), k == 0 || k == 1);
        }
    }

    private static void couldIsForTheWholeGroup() {
        sentence = "could: Whether some choice for the group of i .. gives parameter p of type i the kind number k fits";
        int[][] asks = {{1}, {0, 1, 3}, {0, 0, 1, 3, 3}, {0, 1, 4}};
        for (int k = 0; k < 4; k++) {
            KindJudge x = declared(1, 1);
            write(x, 0, 0, 8, 1);
            write(x, 1, 0, 7, 1);
            for (int n = 0; n < 4; n++) {
                due("could(0, 0, " + n + "), both free", x.could(0, 0, n), true);
            }
            write(x, 1, asks[k]);
            for (int n = 0; n < 4; n++) {
                due("could(0, 0, " + n + "), the other must be " + k, x.could(0, 0, n), n == k);
                due("could(1, 0, " + n + "), must be " + k, x.could(1, 0, n), n == k);
            }
        }
    }

    // ---- Promise 13

    private static void appliedOutside() {
        sentence = "applied: BAD .. also when c or d is another number";
        // Type 3 has a parameter and the others none, so that the last constructor can stand on either side.
        KindJudge x = declared(0, 0, 0, 1);
        for (int n : OUTSIDE) {
            due("applied(" + n + ", 0)", x.applied(n, 0), BAD);
            due("applied(1, " + n + ")", x.applied(1, n), BAD);
            due("applied(" + n + ", " + n + ")", x.applied(n, n), BAD);
        }
        int[] near = {-1, 8, 9, 10};
        for (int n : near) {
            due("applied(" + n + ", 0)", x.applied(n, 0), BAD);
            due("applied(1, " + n + ")", x.applied(1, n), BAD);
            due("applied(3, " + n + ")", x.applied(3, n), BAD);
        }
        due("applied(1, 0), the least d", x.applied(1, 0), 0);
        due("applied(3, 7), the greatest d", x.applied(3, 7), 0);
        due("applied(7, 0), the greatest c", x.applied(7, 0), 0);
        due("applied(0, 0), the least c", x.applied(0, 0), BAD);
    }

    private static void appliedToNoType() {
        sentence = "applied: BAD .. when c or d stands for a type that is not declared";
        int[] counts = {0, 1, 0, 1};
        KindJudge x = new KindJudge();
        for (int types = 0; types <= 4; types++) {
            for (int i = 0; i < 4; i++) {
                boolean one = i < types && counts[i] == 1;
                boolean none = i < types && counts[i] == 0;
                due("applied(" + (4 + i) + ", 0) with " + types + " types", x.applied(4 + i, 0), one ? 0 : BAD);
                due("applied(3, " + (4 + i) + ") with " + types + " types", x.applied(3, 4 + i), one ? 0 : BAD);
                due("applied(1, " + (4 + i) + ") with " + types + " types", x.applied(1, 4 + i), none ? 0 : BAD);
            }
            x.declare(types < 4 ? counts[types] : 0);
        }
        x.clear();
        due("applied(1, 4) of a forgotten type", x.applied(1, 4), BAD);
        due("applied(5, 0) of a forgotten type", x.applied(5, 0), BAD);
        due("applied(1, 0)", x.applied(1, 0), 0);
    }

    private static void appliedToNoWellType() {
        sentence = "applied: BAD .. when c or d stands for a type .. whose group is not well";
        KindJudge x = declared(0, 1, 0);
        write(x, 2, 7);
        write(x, 0, 4);
        due("applied(1, 4), not well", x.applied(1, 4), BAD);
        due("applied(1, 6), that needs it", x.applied(1, 6), BAD);
        due("applied(5, 4), not well", x.applied(5, 4), BAD);
        due("applied(5, 0), well", x.applied(5, 0), 0);
        due("back(0)", x.back(0), 4);
        due("applied(1, 4), well", x.applied(1, 4), 0);
        due("applied(1, 6), well", x.applied(1, 6), 0);
        write(x, 1, 0, 3);
        due("applied(5, 0), unfinished", x.applied(5, 0), 0);
        write(x, 1, 3);
        due("applied(5, 0), not well", x.applied(5, 0), BAD);
        due("applied(3, 5), not well", x.applied(3, 5), BAD);
        due("applied(5, 5), not well", x.applied(5, 5), BAD);
    }

    private static void appliedWithoutANumber() {
        sentence = "applied: when that has a kind and the kind has a number; otherwise BAD";
        int[][] secondIs = {{2}, {0, 2, 3}, {0, 0, 2, 3, 3}, {0, 2, 4}};
        int[] number = {1, 3, BAD, BAD};
        for (int m = 0; m < 4; m++) {
            KindJudge x = declared(2, 0);
            write(x, 0, secondIs[m]);
            due("applied(4, 0), second kind " + m, x.applied(4, 0), number[m]);
            due("applied(4, 5), second kind " + m, x.applied(4, 5), number[m]);
            due("applied(4, 1), has no kind", x.applied(4, 1), BAD);
            due("applied(4, 4), has no kind", x.applied(4, 4), BAD);
        }
        KindJudge x = new KindJudge();
        due("applied(2, 0), kind number 1", x.applied(2, 0), 1);
        due("applied(1, 0), kind number 0", x.applied(1, 0), 0);
        due("applied(3, 1), kind number 0", x.applied(3, 1), 0);
        due("applied(0, 0), has no kind", x.applied(0, 0), BAD);
        due("applied(3, 3), has no kind", x.applied(3, 3), BAD);
    }

    // ---- Promise 14

    private static void clearForgetsAll() {
        sentence = "clear: Forgets all declarations";
        KindJudge x = forgotten();
        due("types()", x.types(), 0);
        for (int i = 0; i < 4; i++) {
            due("parameters(" + i + ")", x.parameters(i), BAD);
            due("fields(" + i + ")", x.fields(i), BAD);
            due("group(" + i + ")", x.group(i), BAD);
            due("well(" + i + ")", x.well(i), false);
            due("kind(" + i + ", 0)", x.kind(i, 0), BAD);
            due("could(" + i + ", 0, 0)", x.could(i, 0, 0), false);
            due("needs(" + i + ", " + i + ")", x.needs(i, i), false);
            due("back(" + i + ")", x.back(i), BAD);
            due("applied(1, " + (4 + i) + ")", x.applied(1, 4 + i), BAD);
        }
    }

    private static void clearMakesRoom() {
        sentence = "clear: Forgets all declarations (and there is room for four types and six parameters again)";
        KindJudge x = declared(2, 2, 2, 0);
        due("declare(0), full", x.declare(0), FULL);
        x.clear();
        for (int i = 0; i < 3; i++) {
            due("declare(2)", x.declare(2), i);
        }
        due("declare(1), full", x.declare(1), FULL);
        due("declare(0)", x.declare(0), 3);
        x.clear();
        x.clear();
        due("declare(0) after clear() twice", x.declare(0), 0);
        KindJudge none = new KindJudge();
        none.clear();
        due("types() after clear() of nothing", none.types(), 0);
        due("declare(1) after clear() of nothing", none.declare(1), 0);
        KindJudge other = declared(1);
        none.clear();
        due("types() of another object", other.types(), 1);
    }

    public static void main(String[] args) {
        newObject();
        declareOutside();
        declareFullOfTypes();
        declareFullOfParameters();
        declareBadBeforeFull();
        declareAnswersTheNumber();
        declareWithNoTokens();
        tokenOfNoType();
        tokenOutside();
        tokenOfNoParameter();
        tokenOfNoConstructor();
        tokenFull();
        tokenBadBeforeFull();
        tokenAnswersTheFields();
        backOfNoType();
        backOfNoTokens();
        backAnswersTheLastToken();
        backMakesRoom();
        types();
        parametersOfNoType();
        fieldsOfNoType();
        fieldsOfAList();
        needsOfNoType();
        needsItself();
        groupOfNoType();
        groupAnswersTheLeast();
        wellOfNoType();
        kindOfNoParameter();
        kindOfNoWellGroup();
        couldOfNoParameter();
        couldOfNoWellGroup();
        couldIsForTheWholeGroup();
        appliedOutside();
        appliedToNoType();
        appliedToNoWellType();
        appliedWithoutANumber();
        clearForgetsAll();
        clearMakesRoom();
        System.out.println(wrong == 0 ? "all answers are as due" : wrong + " answers are not as due");
        if (wrong != 0) {
            System.exit(1);
        }
    }
}
