// The promises of the document one by one: ordinary inputs, the edges it names, and wrong inputs.
public final class PromisesTest {
    private static final int[] WRONG = {Integer.MIN_VALUE, -33, -32, -31, -2, -1, 32, 33, 36, 37, 64, Integer.MAX_VALUE};

    private static final int[][] ORDERS = {
        {0, 1, 2, 3}, {3, 2, 1, 0}, {0, 2, 1, 3}, {1, 3, 0, 2}, {2, 0, 3, 1}, {3, 1, 2, 0},
    };

    private static int wrong = 0;
    private static String promise = "";

    private static void due(String call, long got, long want) {
        if (got != want) {
            wrong++;
            System.out.println(promise + ": " + call + " answered " + got + ", due is " + want);
        }
    }

    private static void due(String call, boolean got, boolean want) {
        due(call, got ? 1 : 0, want ? 1 : 0);
    }

    /** An object with one declared type for each number of parameters. */
    private static KindJudge declared(int... parameters) {
        KindJudge x = new KindJudge();
        for (int i = 0; i < parameters.length; i++) {
            due("declare(" + parameters[i] + ") as type " + i, x.declare(parameters[i]), i);
        }
        return x;
    }

    private static void write(KindJudge x, int i, int... tokens) {
        for (int token : tokens) {
            int got = x.token(i, token);
            due("token(" + i + ", " + token + ") is taken", got >= 0, true);
        }
    }

    private static void dueKinds(KindJudge x, int i, int... kinds) {
        due("well(" + i + ")", x.well(i), true);
        for (int p = 0; p < kinds.length; p++) {
            due("kind(" + i + ", " + p + ")", x.kind(i, p), kinds[p]);
        }
    }

    /** could(i, p, k) for k = 0 .. 3, as bits 0 .. 3. */
    private static void dueCould(KindJudge x, int i, int p, int bits) {
        for (int k = 0; k < 4; k++) {
            due("could(" + i + ", " + p + ", " + k + ")", x.could(i, p, k), (bits >> k & 1) != 0);
        }
    }

    private static void dueNotWell(KindJudge x, int i) {
        due("well(" + i + ")", x.well(i), false);
        for (int p = 0; p < 2; p++) {
            due("kind(" + i + ", " + p + ")", x.kind(i, p), -1);
            dueCould(x, i, p, 0);
        }
    }

    private static String answers(KindJudge x) {
        StringBuilder all = new StringBuilder().append(x.types());
        for (int i = 0; i < 4; i++) {
            all.append(" |").append(x.parameters(i)).append(x.fields(i)).append(x.group(i)).append(x.well(i));
            for (int j = 0; j < 4; j++) {
                all.append(x.needs(i, j) ? " n" : " -");
            }
            for (int p = 0; p < 2; p++) {
                all.append(" k").append(x.kind(i, p));
                for (int k = 0; k < 4; k++) {
                    all.append(x.could(i, p, k) ? 'c' : '-');
                }
            }
        }
        for (int c = 0; c < 8; c++) {
            for (int d = 0; d < 8; d++) {
                all.append(' ').append(x.applied(c, d));
            }
        }
        for (int i = 0; i < 4; i++) {
            all.append(" tokens");
            for (int n = 0, token = 0; n < 21 && token >= 0; n++) {
                token = x.back(i);
                all.append(' ').append(token);
            }
        }
        return all.toString();
    }

    private static void newObject() {
        promise = "promise 1";
        due("BAD", KindJudge.BAD, -1);
        due("FULL", KindJudge.FULL, -2);
        KindJudge x = new KindJudge();
        due("types()", x.types(), 0);
        for (int i = 0; i < 4; i++) {
            due("parameters", x.parameters(i), -1);
            due("fields", x.fields(i), -1);
            due("group", x.group(i), -1);
            due("token", x.token(i, 3), -1);
            due("back", x.back(i), -1);
            due("needs", x.needs(i, i), false);
            dueNotWell(x, i);
            due("applied(1, " + (4 + i) + ")", x.applied(1, 4 + i), -1);
        }
        due("applied(1, 0)", x.applied(1, 0), 0);
        due("the first type", x.declare(0), 0);
        due("another object is not touched", new KindJudge().types(), 0);
    }

    private static void declare() {
        promise = "promise 2";
        KindJudge x = new KindJudge();
        for (int parameters : WRONG) {
            due("declare(" + parameters + ")", x.declare(parameters), -1);
        }
        due("declare(3)", x.declare(3), -1);
        due("types() after refusals", x.types(), 0);
        due("declare(2)", x.declare(2), 0);
        due("declare(0)", x.declare(0), 1);
        due("declare(1)", x.declare(1), 2);
        due("parameters(0)", x.parameters(0), 2);
        due("fields(0)", x.fields(0), 0);
        due("back(0) on no tokens", x.back(0), -1);
        due("declare(0)", x.declare(0), 3);
        for (int parameters = 0; parameters <= 2; parameters++) {
            due("declare(" + parameters + ") with four types", x.declare(parameters), -2);
        }
        due("declare(3) with four types", x.declare(3), -1);
        due("declare(-1) with four types", x.declare(-1), -1);
        due("types()", x.types(), 4);

        KindJudge six = declared(2, 2, 2);
        due("declare(1) beyond six", six.declare(1), -2);
        due("declare(2) beyond six", six.declare(2), -2);
        due("declare(3) beyond six", six.declare(3), -1);
        due("types()", six.types(), 3);
        due("declare(0) at six", six.declare(0), 3);

        KindJudge five = declared(2, 1, 2);
        due("declare(2) at five", five.declare(2), -2);
        due("declare(1) at five", five.declare(1), 3);
    }

    private static void token() {
        promise = "promise 3";
        KindJudge x = declared(0, 1);
        for (int i : new int[] {-1, 2, 3, 4}) {
            due("token(" + i + ", 0)", x.token(i, 0), -1);
        }
        for (int i : WRONG) {
            due("token(" + i + ", 3)", x.token(i, 3), -1);
            due("token(0, " + i + ")", x.token(0, i), -1);
        }
        due("token(0, 11)", x.token(0, 11), -1);
        due("no parameter 0", x.token(0, 1), -1);
        due("no parameter 1 of none", x.token(0, 2), -1);
        due("no parameter 1 of one", x.token(1, 2), -1);
        due("type 2 is not declared", x.token(0, 9), -1);
        due("type 3 is not declared", x.token(0, 10), -1);
        due("nothing was appended", x.back(0), -1);
        due("its own constructor", x.token(0, 7), 1);
        due("a later type's constructor", x.token(0, 8), 2);
        due("parameter 0", x.token(1, 1), 1);
        due("declare(2)", x.declare(2), 2);
        due("type 2 is declared now", x.token(0, 9), 3);
        due("parameter 1", x.token(2, 2), 1);
        due("APPLY", x.token(2, 0), 1);
        due("APPLY f", x.token(2, 0), 1);
        due("APPLY APPLY f", x.token(2, 5), 1);
        due("APPLY APPLY f a", x.token(2, 3), 1);
        due("APPLY APPLY f a b", x.token(2, 3), 2);
        due("the next one", x.token(2, 6), 3);
        full();
    }

    private static void full() {
        KindJudge x = declared(0, 1);
        for (int n = 1; n <= 20; n++) {
            due("token " + n + " of leaves", x.token(0, 3), n);
            due("token " + n + " of APPLYs", x.token(1, 0), 0);
        }
        due("token 21", x.token(0, 3), -2);
        due("token 21, APPLY", x.token(0, 0), -2);
        due("a wrong token in a full list", x.token(0, 11), -1);
        due("a wrong parameter in a full list", x.token(0, 1), -1);
        due("a wrong constructor in a full list", x.token(0, 9), -1);
        due("token 21 after APPLYs", x.token(1, 3), -2);
        due("fields of the full list", x.fields(0), 20);
        due("back", x.back(0), 3);
        due("token 20 again", x.token(0, 4), 20);
        due("back", x.back(0), 4);
        due("fields of the APPLYs", x.fields(1), 0);

        KindJudge deep = declared(0);
        write(deep, 0, 3, 0, 0, 0, 0, 0, 0, 0, 0, 0, 3, 3, 3, 3, 3, 3, 3, 3, 3);
        due("fields before the last token", deep.fields(0), 1);
        due("token 20 finishes", deep.token(0, 3), 2);
    }

    private static void back() {
        promise = "promise 4";
        KindJudge x = declared(2, 0);
        int[] row = {0, 1, 2, 10 - 3, 3, 8, 0, 0, 5};
        write(x, 0, row);
        write(x, 1, 6);
        for (int i : WRONG) {
            due("back(" + i + ")", x.back(i), -1);
        }
        due("back(2)", x.back(2), -1);
        due("fields(0)", x.fields(0), 4);
        for (int n = row.length - 1; n >= 0; n--) {
            due("back(0) at " + n, x.back(0), row[n]);
        }
        due("back(0) with no tokens", x.back(0), -1);
        due("fields(0)", x.fields(0), 0);
        due("type 1 is as it was", x.back(1), 6);
        due("back(1) with no tokens", x.back(1), -1);
        write(x, 0, 0, 1, 2);
        due("fields(0)", x.fields(0), 1);
        due("back(0)", x.back(0), 2);
        due("unfinished again", x.fields(0), 0);
        due("finished again", x.token(0, 3), 1);
    }

    private static void types() {
        promise = "promise 5";
        KindJudge x = new KindJudge();
        for (int n = 0; n < 4; n++) {
            due("types()", x.types(), n);
            x.declare(1);
        }
        due("types()", x.types(), 4);
        x.declare(0);
        due("types() after a refusal", x.types(), 4);
    }

    private static void parameters() {
        promise = "promise 6";
        KindJudge x = declared(1, 0, 2);
        due("parameters(0)", x.parameters(0), 1);
        due("parameters(1)", x.parameters(1), 0);
        due("parameters(2)", x.parameters(2), 2);
        due("parameters(3)", x.parameters(3), -1);
        due("parameters(4)", x.parameters(4), -1);
        for (int i : WRONG) {
            due("parameters(" + i + ")", x.parameters(i), -1);
        }
    }

    private static void fields() {
        promise = "promise 7";
        KindJudge x = declared(0, 1);
        due("fields(0)", x.fields(0), 0);
        write(x, 0, 3, 4, 0, 3);
        due("the unfinished one does not count", x.fields(0), 2);
        write(x, 0, 0, 3, 4, 5);
        due("four fields", x.fields(0), 4);
        due("fields(1)", x.fields(1), 0);
        due("fields(2)", x.fields(2), -1);
        due("fields(4)", x.fields(4), -1);
        for (int i : WRONG) {
            due("fields(" + i + ")", x.fields(i), -1);
        }
    }

    private static void needs() {
        promise = "promise 8";
        for (int[] order : ORDERS) {
            KindJudge x = declared(0, 0, 0, 0);
            for (int n = 0; n < 3; n++) {
                write(x, order[n], 7 + order[n + 1]);
            }
            for (int n = 0; n < 4; n++) {
                for (int m = 0; m < 4; m++) {
                    due("needs(" + order[n] + ", " + order[m] + ") in a chain", x.needs(order[n], order[m]), n < m);
                }
            }
            write(x, order[3], 7 + order[0]);
            for (int n = 0; n < 16; n++) {
                due("needs in a circle", x.needs(n / 4, n % 4), true);
            }
        }
        KindJudge x = declared(1, 1);
        due("needs(0, 0)", x.needs(0, 0), false);
        write(x, 0, 0, 7);
        due("an unfinished one does not count", x.needs(0, 0), false);
        write(x, 0, 8);
        due("as what is applied", x.needs(0, 0), true);
        due("as what it is applied to", x.needs(0, 1), true);
        due("needs(1, 0)", x.needs(1, 0), false);
        due("back(0)", x.back(0), 8);
        due("unfinished again", x.needs(0, 1), false);
        write(x, 1, 3, 0, 0, 7, 3);
        due("a finished part of an unfinished one", x.needs(1, 0), false);
        write(x, 1, 3);
        due("a field without a kind", x.needs(1, 0), true);
        for (int i : new int[] {-1, 2, 3, 4, 5, 31, 32, 33, Integer.MAX_VALUE, Integer.MIN_VALUE}) {
            due("needs(1, " + i + ")", x.needs(1, i), false);
            due("needs(" + i + ", 0)", x.needs(i, 0), false);
        }
    }

    private static void group() {
        promise = "promise 9";
        KindJudge x = declared(0, 0, 0, 0);
        for (int i = 0; i < 4; i++) {
            due("group alone", x.group(i), i);
        }
        write(x, 3, 8);
        write(x, 2, 9);
        due("needed one way", x.group(3), 3);
        due("needs itself", x.group(2), 2);
        write(x, 1, 9 + 1);
        due("group(3)", x.group(3), 1);
        due("group(1)", x.group(1), 1);
        due("group(2)", x.group(2), 2);
        write(x, 2, 7);
        write(x, 0, 9);
        due("group(2)", x.group(2), 0);
        due("two groups", x.group(3), 1);
        write(x, 0, 8);
        due("one group needs the other", x.group(1), 1);
        write(x, 1, 0, 7);
        due("unfinished", x.group(1), 1);
        write(x, 1, 7);
        for (int i = 0; i < 4; i++) {
            due("one group", x.group(i), 0);
        }
        x.back(1);
        due("two groups again", x.group(3), 1);
        KindJudge two = declared(1, 1);
        for (int i : new int[] {-1, 2, 3, 4, 5, 31, 32, 33, Integer.MAX_VALUE, Integer.MIN_VALUE}) {
            due("group(" + i + ")", two.group(i), -1);
        }
    }

    private static void well() {
        promise = "promise 10";
        KindJudge x = declared(0, 2);
        due("no fields", x.well(0), true);
        due("no fields, parameters", x.well(1), true);
        for (int i : new int[] {-1, 2, 3, 4, 5, 31, 32, 33, Integer.MAX_VALUE, Integer.MIN_VALUE}) {
            due("well(" + i + ")", x.well(i), false);
        }
        for (int c = 0; c < 4; c++) {
            write(x, 0, 3 + c);
            due("a field that is constructor " + c, x.well(0), c == 0);
            x.back(0);
        }
        fieldsOfOne();
        notWellBecauseOfNeeds();
    }

    private static void fieldsOfOne() {
        int[][] good = {
            {0, 4, 3}, {0, 0, 5, 3, 3}, {0, 6, 4}, {0, 6, 0, 5, 3}, {1}, {1, 3}, {0, 1, 3}, {0, 1, 4}, {0, 6, 1},
            {0, 4, 1}, {0, 0, 1, 3, 3}, {0, 1, 0, 5, 3}, {0, 1, 3, 0, 1, 0, 1, 3}, {0, 4, 0}, {0, 0, 4, 3}, {0, 7, 3},
        };
        int[][] bad = {
            {4}, {0, 3, 3}, {0, 4, 4}, {0, 5, 3}, {0, 6, 3}, {0, 6, 5}, {0, 0, 4, 3, 3}, {0, 1, 1}, {0, 1, 5}, {0, 1, 6},
            {0, 1, 3, 0, 1, 4}, {0, 1, 3, 1}, {1, 0, 6, 1}, {0, 0, 1, 3, 4}, {0, 0, 1, 4, 3}, {0, 0, 0, 1, 3, 3, 3},
            {3, 4, 3}, {7}, {0, 1, 7}, {0, 3, 0, 3, 3}, {0, 4, 0, 3, 3}, {0, 7, 0, 7, 3, 0, 7, 4},
        };
        for (int[] row : good) {
            KindJudge x = declared(1);
            write(x, 0, row);
            due("well(0) with " + java.util.Arrays.toString(row), x.well(0), true);
        }
        for (int[] row : bad) {
            KindJudge x = declared(1);
            write(x, 0, row);
            dueNotWell(x, 0);
            due("well(0) with " + java.util.Arrays.toString(row), x.well(0), false);
        }
    }

    private static void notWellBecauseOfNeeds() {
        KindJudge x = declared(0, 1, 1, 0);
        write(x, 1, 4);
        write(x, 2, 0, 8, 3);
        write(x, 0, 0, 9, 3);
        write(x, 3, 3);
        dueNotWell(x, 1);
        dueNotWell(x, 2);
        dueNotWell(x, 0);
        due("a group apart", x.well(3), true);
        write(x, 1, 10);
        due("one that is needed", x.well(3), true);
        write(x, 3, 7);
        dueNotWell(x, 3);
        due("group(3)", x.group(3), 0);
        for (int n = 0; n < 2; n++) {
            x.back(1);
        }
        dueKinds(x, 1, 0);
        dueKinds(x, 2, 0);
        due("well(3)", x.well(3), true);
    }

    private static void kind() {
        promise = "promise 11";
        KindJudge x = declared(2, 2, 1);
        dueKinds(x, 0, 0, 0);
        write(x, 0, 0, 1, 2);
        dueKinds(x, 0, 1, 0);
        write(x, 0, 0, 6, 2);
        dueKinds(x, 0, 3, 1);
        x.back(0);
        dueKinds(x, 0, 1, 0);
        x.back(0);
        x.back(0);
        // Type 0 is settled as (1, 0) although (3, 1) fits too, so another group can't use it as (3, 1).
        write(x, 1, 0, 0, 7, 1, 2);
        dueKinds(x, 1, 1, 0);
        dueCould(x, 1, 0, 1 << 1);
        dueCould(x, 1, 1, 1 << 0);
        write(x, 2, 0, 0, 7, 6, 4);
        dueNotWell(x, 2);
        // In one group with type 2 it can.
        write(x, 0, 0, 9, 3);
        dueKinds(x, 0, 3, 1);
        dueKinds(x, 1, 3, 1);
        dueKinds(x, 2, 0);
        kindsWithoutNumbers();
        kindsThroughChains();
        kindsInOneLargeGroup();
        refusedKinds();
    }

    private static void kindsWithoutNumbers() {
        KindJudge x = declared(2, 2, 1);
        write(x, 0, 0, 0, 1, 3, 3, 0, 2, 4);
        dueKinds(x, 0, 2, 3);
        write(x, 1, 0, 0, 7, 1, 2);
        dueKinds(x, 1, 2, 3);
        write(x, 2, 0, 0, 8, 5, 6);
        dueKinds(x, 2, 0);
        write(x, 2, 0, 1, 0, 8, 5);
        dueNotWell(x, 2);

        KindJudge swapped = declared(2, 1);
        write(swapped, 0, 0, 2, 3);
        dueKinds(swapped, 0, 0, 1);
        write(swapped, 1, 0, 6, 0, 8, 1);
        dueNotWell(swapped, 1);
    }

    private static void kindsThroughChains() {
        for (int[] order : ORDERS) {
            KindJudge x = declared(1, 1, 1, 1);
            for (int n = 0; n < 3; n++) {
                write(x, order[n], 0, 7 + order[n + 1], 1);
            }
            for (int n = 0; n < 4; n++) {
                dueKinds(x, order[n], 0);
            }
            write(x, order[3], 0, 1, 4);
            for (int n = 0; n < 4; n++) {
                due("group(" + n + ") in a chain", x.group(n), n);
                dueKinds(x, order[n], 3);
                dueCould(x, order[n], 0, 1 << 3);
            }
            write(x, order[3], 1);
            for (int n = 0; n < 4; n++) {
                dueNotWell(x, order[n]);
            }
        }
    }

    private static void kindsInOneLargeGroup() {
        KindJudge x = declared(2, 2, 2, 0);
        for (int i = 0; i < 3; i++) {
            write(x, i, 0, 0, 7 + (i + 1) % 3, 1, 2);
        }
        for (int i = 0; i < 3; i++) {
            dueKinds(x, i, 0, 0);
            dueCould(x, i, 0, 15);
            dueCould(x, i, 1, 15);
        }
        write(x, 2, 0, 1, 4, 10, 0, 0, 2, 3, 3);
        write(x, 3, 0, 0, 7, 6, 5);
        for (int i = 0; i < 3; i++) {
            dueKinds(x, i, 3, 2);
            dueCould(x, i, 0, 1 << 3);
            dueCould(x, i, 1, 1 << 2);
        }
        due("group(3)", x.group(3), 0);
        due("well(3)", x.well(3), true);
        write(x, 3, 4);
        for (int i = 0; i < 4; i++) {
            dueNotWell(x, i);
        }
    }

    private static void refusedKinds() {
        KindJudge x = declared(1, 0, 2);
        due("kind(0, 1)", x.kind(0, 1), -1);
        due("kind(1, 0)", x.kind(1, 0), -1);
        due("kind(2, 2)", x.kind(2, 2), -1);
        due("kind(2, 3)", x.kind(2, 3), -1);
        due("kind(3, 0)", x.kind(3, 0), -1);
        due("kind(4, 0)", x.kind(4, 0), -1);
        for (int i : WRONG) {
            due("kind(" + i + ", 0)", x.kind(i, 0), -1);
            due("kind(0, " + i + ")", x.kind(0, i), -1);
        }
    }

    private static void could() {
        promise = "promise 12";
        KindJudge x = declared(2, 1, 0, 2);
        dueCould(x, 0, 0, 15);
        dueCould(x, 0, 1, 15);
        write(x, 0, 0, 1, 2);
        dueCould(x, 0, 0, 1 << 1 | 1 << 3);
        dueCould(x, 0, 1, 1 << 0 | 1 << 1);
        write(x, 1, 0, 1, 3);
        dueCould(x, 1, 0, 1 << 1);
        write(x, 3, 0, 0, 10, 1, 2);
        dueCould(x, 3, 0, 15);
        write(x, 3, 0, 0, 10, 2, 1);
        dueCould(x, 3, 1, 15);
        write(x, 3, 0, 8, 1);
        dueCould(x, 3, 0, 1 << 1);
        dueCould(x, 3, 1, 1 << 1);
        for (int k : WRONG) {
            due("could(0, 0, " + k + ")", x.could(0, 0, k), false);
            due("could(0, " + k + ", 0)", x.could(0, k, 0), false);
            due("could(" + k + ", 0, 1)", x.could(k, 0, 1), false);
        }
        due("could(0, 0, 4)", x.could(0, 0, 4), false);
        due("could(0, 1, 4)", x.could(0, 1, 4), false);
        dueCould(x, 0, 2, 0);
        dueCould(x, 1, 1, 0);
        dueCould(x, 2, 0, 0);
        dueCould(x, 4, 0, 0);
        couldWhenNotWell();
    }

    private static void couldWhenNotWell() {
        KindJudge x = declared(1, 2);
        write(x, 1, 2);
        dueCould(x, 1, 0, 15);
        dueCould(x, 1, 1, 1);
        write(x, 0, 4);
        dueNotWell(x, 0);
        dueCould(x, 1, 0, 15);
        write(x, 1, 0, 7, 3);
        dueNotWell(x, 1);
        x.back(1);
        dueCould(x, 1, 0, 15);
        dueCould(x, 1, 1, 1);
    }

    private static void applied() {
        promise = "promise 13";
        int[][] builtIn = {{-1, -1, -1, -1}, {0, -1, -1, -1}, {1, -1, -1, -1}, {-1, 0, -1, -1}};
        KindJudge x = declared(0, 1, 2, 2);
        write(x, 3, 0, 1, 3);
        for (int c = 0; c < 4; c++) {
            for (int d = 0; d < 4; d++) {
                due("applied(" + c + ", " + d + ")", x.applied(c, d), builtIn[c][d]);
                // Types 0, 1, 2 have the kinds with the numbers 0, 1, 2 here.
                if (c < 3 && d < 3) {
                    due("applied(" + (4 + c) + ", " + d + ")", x.applied(4 + c, d), builtIn[c][d]);
                    due("applied(" + c + ", " + (4 + d) + ")", x.applied(c, 4 + d), builtIn[c][d]);
                    due("applied(" + (4 + c) + ", " + (4 + d) + ")", x.applied(4 + c, 4 + d), builtIn[c][d]);
                }
            }
            due("applied(7, " + c + ")", x.applied(7, c), c == 1 ? 1 : -1);
            due("applied(" + c + ", 7)", x.applied(c, 7), -1);
        }
        due("applied(7, 5)", x.applied(7, 5), 1);
        due("applied(8, 0)", x.applied(8, 0), -1);
        due("applied(1, 8)", x.applied(1, 8), -1);
        for (int c : WRONG) {
            due("applied(" + c + ", 0)", x.applied(c, 0), -1);
            due("applied(1, " + c + ")", x.applied(1, c), -1);
        }
        resultsWithoutNumbers();
        appliedWhenNotWell();
    }

    private static void resultsWithoutNumbers() {
        int[][] secondIs = {{2}, {0, 2, 3}, {0, 0, 2, 3, 3}, {0, 2, 4}};
        int[] results = {1, 3, -1, -1};
        for (int k = 0; k < 4; k++) {
            KindJudge x = declared(2, 1);
            write(x, 0, secondIs[k]);
            write(x, 1, secondIs[k].length == 1 ? new int[] {1} : new int[] {0, 0, 7, 3, 1});
            dueKinds(x, 0, 0, k);
            dueKinds(x, 1, k);
            due("applied(4, 0) for second kind " + k, x.applied(4, 0), results[k]);
            for (int d = 0; d < 4; d++) {
                due("applied(5, " + d + ") for kind " + k, x.applied(5, d), d == k ? 0 : -1);
            }
            due("applied(3, 5) for kind " + k, x.applied(3, 5), k == 0 ? 0 : -1);
        }
    }

    private static void appliedWhenNotWell() {
        KindJudge x = declared(0, 1);
        due("applied(1, 4)", x.applied(1, 4), 0);
        due("applied(5, 0)", x.applied(5, 0), 0);
        due("type 2 is not declared", x.applied(6, 0), -1);
        due("type 2 is not declared", x.applied(1, 6), -1);
        write(x, 0, 4);
        write(x, 1, 5);
        due("applied(1, 4), not well", x.applied(1, 4), -1);
        due("applied(5, 0), not well", x.applied(5, 0), -1);
        due("applied(1, 0)", x.applied(1, 0), 0);
        x.back(0);
        due("applied(1, 4)", x.applied(1, 4), 0);
        due("applied(5, 4)", x.applied(5, 4), -1);
    }

    private static void clear() {
        promise = "promise 14";
        KindJudge x = declared(2, 2, 2, 0);
        write(x, 0, 0, 1, 2);
        write(x, 3, 3, 4);
        write(x, 2, 10);
        due("well(2)", x.well(2), false);
        due("kind(0, 0)", x.kind(0, 0), 1);
        x.clear();
        due("as a new object", answers(x).equals(answers(new KindJudge())), true);
        due("declare(1)", x.declare(1), 0);
        due("parameters(0)", x.parameters(0), 1);
        due("fields(0)", x.fields(0), 0);
        due("back(0)", x.back(0), -1);
        dueKinds(x, 0, 0);
        dueCould(x, 0, 0, 15);
        due("parameter 1 is gone", x.token(0, 2), -1);
        due("type 1 is gone", x.token(0, 8), -1);
        due("declare(2)", x.declare(2), 1);
        due("declare(2)", x.declare(2), 2);
        due("declare(2)", x.declare(2), -2);
        due("declare(1)", x.declare(1), 3);
        for (int i = 0; i < 4; i++) {
            due("well(" + i + ")", x.well(i), true);
            due("back(" + i + ")", x.back(i), -1);
        }
        KindJudge none = new KindJudge();
        none.clear();
        due("clear() of nothing", none.types(), 0);
    }

    private static KindJudge sample() {
        KindJudge x = declared(2, 1, 2);
        write(x, 0, 0, 1, 2, 0, 0, 8);
        write(x, 1, 0, 0, 9, 1, 3, 0, 0, 7, 4, 3);
        for (int n = 0; n < 20; n++) {
            write(x, 2, 2);
        }
        return x;
    }

    private static int refused(KindJudge x, int which) {
        switch (which) {
            case 0: return x.declare(-1);
            case 1: return x.declare(3);
            case 2: return x.declare(2);
            case 3: return x.token(3, 3);
            case 4: return x.token(-1, 3);
            case 5: return x.token(0, 11);
            case 6: return x.token(0, -1);
            case 7: return x.token(1, 2);
            case 8: return x.token(0, 10);
            case 9: return x.token(2, 2);
            case 10: return x.token(2, 0);
            case 11: return x.back(3);
            case 12: return x.back(-1);
            case 13: return x.parameters(3);
            case 14: return x.fields(3);
            case 15: return x.needs(2, 0) ? 0 : -1;
            case 16: return x.group(3);
            case 17: return x.well(3) ? 0 : -1;
            case 18: return x.kind(1, 1);
            case 19: return x.could(0, 0, 0) ? 0 : -1;
            case 20: return x.applied(0, 0);
            default: return x.applied(7, 8);
        }
    }

    private static void refusalsChangeNothing() {
        promise = "promise 15";
        String before = answers(sample());
        for (int which = 0; which <= 21; which++) {
            KindJudge x = sample();
            due("refused call " + which + " is refused", refused(x, which) < 0, true);
            due("refused call " + which + " again", refused(x, which) < 0, true);
            due("refused call " + which + " changes nothing", answers(x).equals(before), true);
        }
        KindJudge x = declared(0);
        due("back of no tokens", x.back(0), -1);
        due("back of no tokens", x.back(0), -1);
        due("the first token then", x.token(0, 3), 1);
        due("the second token then", x.token(0, 3), 2);
        KindJudge four = declared(1, 0, 0, 0);
        due("a fifth type", four.declare(1), -2);
        four.clear();
        due("six parameters, none of them lost", four.declare(2) + four.declare(2) + four.declare(2), 3);
    }

    public static void main(String[] args) {
        newObject();
        declare();
        token();
        back();
        types();
        parameters();
        fields();
        needs();
        group();
        well();
        kind();
        could();
        applied();
        clear();
        refusalsChangeNothing();
        System.out.println(wrong == 0 ? "all answers are as due" : wrong + " answers are not as due");
        if (wrong != 0) {
            System.exit(1);
        }
    }
}
