import java.util.ArrayList;
import java.util.List;
import java.util.Set;
import java.util.TreeSet;

// Long runs of calls, each answer compared with that of a slow model that follows the document's terms word by word.
public final class ModelTest {
    private static final int RUNS = 500;
    private static final int CALLS = 512;

    /** A kind, or what has none, is a text: equal texts are equal kinds. */
    private static final List<String> NUMBERED = List.of("*", "(* -> *)", "(* -> (* -> *))", "((* -> *) -> *)");
    private static final String NONE = "none";

    /** An expression: a leaf token, or f applied to a. */
    private record Expression(int leaf, Expression f, Expression a) {
        void constructors(Set<Integer> into) {
            if (f != null) {
                f.constructors(into);
                a.constructors(into);
            } else if (leaf >= 3) {
                into.add(leaf - 3);
            }
        }
    }

    /** The judge as the document tells it, with no thought for speed. */
    private static final class Model {
        private final List<Integer> parameters = new ArrayList<>();
        private final List<List<Integer>> tokens = new ArrayList<>();
        private int at;
        private List<String[]> settledKinds;
        private List<Set<String>> couldBe;

        boolean has(int i) {
            return i >= 0 && i < parameters.size();
        }

        int declare(int count) {
            if (count < 0 || count > 2) {
                return -1;
            }
            if (parameters.size() == 4 || parameters.stream().mapToInt(n -> n).sum() + count > 6) {
                return -2;
            }
            changed();
            parameters.add(count);
            tokens.add(new ArrayList<>());
            return parameters.size() - 1;
        }

        int token(int i, int token) {
            if (!has(i) || token < 0 || token > 10) {
                return -1;
            }
            if (token == 1 && parameters.get(i) < 1 || token == 2 && parameters.get(i) < 2 || token >= 7 && !has(token - 7)) {
                return -1;
            }
            if (tokens.get(i).size() == 20) {
                return -2;
            }
            changed();
            tokens.get(i).add(token);
            return fields(i).size();
        }

        int back(int i) {
            if (!has(i) || tokens.get(i).isEmpty()) {
                return -1;
            }
            changed();
            return tokens.get(i).remove(tokens.get(i).size() - 1);
        }

        void clear() {
            changed();
            parameters.clear();
            tokens.clear();
        }

        List<Expression> fields(int i) {
            List<Expression> all = new ArrayList<>();
            at = 0;
            for (Expression next = read(tokens.get(i)); next != null; next = read(tokens.get(i))) {
                all.add(next);
            }
            return all;
        }

        private Expression read(List<Integer> row) {
            if (at >= row.size()) {
                return null;
            }
            int token = row.get(at++);
            if (token != 0) {
                return new Expression(token, null, null);
            }
            Expression f = read(row);
            Expression a = f == null ? null : read(row);
            return a == null ? null : new Expression(0, f, a);
        }

        Set<Integer> needed(int i) {
            Set<Integer> found = new TreeSet<>();
            List<Integer> toRead = new ArrayList<>(List.of(i));
            while (!toRead.isEmpty()) {
                Set<Integer> named = new TreeSet<>();
                for (Expression field : fields(toRead.remove(0))) {
                    field.constructors(named);
                }
                for (int c : named) {
                    if (c >= 4 && found.add(c - 4)) {
                        toRead.add(c - 4);
                    }
                }
            }
            return found;
        }

        boolean needs(int i, int j) {
            return has(i) && has(j) && needed(i).contains(j);
        }

        Set<Integer> members(int i) {
            Set<Integer> all = new TreeSet<>(Set.of(i));
            for (int j : needed(i)) {
                if (needed(j).contains(i)) {
                    all.add(j);
                }
            }
            return all;
        }

        int group(int i) {
            return has(i) ? members(i).iterator().next() : -1;
        }

        boolean well(int i) {
            return has(i) && settled().get(i) != null;
        }

        int kind(int i, int p) {
            boolean asked = well(i) && p >= 0 && p < parameters.get(i);
            return asked ? NUMBERED.indexOf(settled().get(i)[p]) : -1;
        }

        boolean could(int i, int p, int k) {
            settled();
            return well(i) && couldBe.get(i).contains(p + " " + k);
        }

        int applied(int c, int d) {
            if (c < 0 || c > 7 || d < 0 || d > 7 || c >= 4 && !well(c - 4) || d >= 4 && !well(d - 4)) {
                return -1;
            }
            Expression both = new Expression(0, new Expression(3 + c, null, null), new Expression(3 + d, null, null));
            return NUMBERED.indexOf(kindOf(both, 0, settled()));
        }

        private void changed() {
            settledKinds = null;
        }

        /** The settled kinds of the parameters of each type; null for a type whose group is not well. */
        private List<String[]> settled() {
            if (settledKinds == null) {
                settledKinds = new ArrayList<>();
                couldBe = new ArrayList<>();
                Set<Integer> done = new TreeSet<>();
                for (int i = 0; i < parameters.size(); i++) {
                    settledKinds.add(null);
                    couldBe.add(new TreeSet<>());
                }
                for (int i = 0; i < parameters.size(); i++) {
                    settleAfterNeeds(i, done);
                }
            }
            return settledKinds;
        }

        private void settleAfterNeeds(int i, Set<Integer> done) {
            if (done.contains(i)) {
                return;
            }
            Set<Integer> group = members(i);
            done.addAll(group);
            boolean hopeful = true;
            for (int j : needed(i)) {
                if (!group.contains(j)) {
                    settleAfterNeeds(j, done);
                    hopeful &= settledKinds.get(j) != null;
                }
            }
            if (!hopeful) {
                return;
            }
            List<String[]> kinds = new ArrayList<>(settledKinds);
            for (int j : group) {
                kinds.set(j, new String[parameters.get(j)]);
            }
            List<List<Expression>> fields = new ArrayList<>();
            for (int j = 0; j < parameters.size(); j++) {
                fields.add(group.contains(j) ? fields(j) : List.of());
            }
            choose(new ArrayList<>(group), 0, 0, kinds, fields);
        }

        /** Goes through the choices in dictionary order, one parameter after the other. */
        private void choose(List<Integer> group, int n, int p, List<String[]> kinds, List<List<Expression>> fields) {
            if (n == group.size()) {
                if (fits(kinds, fields)) {
                    keep(group, kinds);
                }
            } else if (p == parameters.get(group.get(n))) {
                choose(group, n + 1, 0, kinds, fields);
            } else {
                for (String kind : NUMBERED) {
                    kinds.get(group.get(n))[p] = kind;
                    choose(group, n, p + 1, kinds, fields);
                }
            }
        }

        private boolean fits(List<String[]> kinds, List<List<Expression>> fields) {
            for (int i = 0; i < fields.size(); i++) {
                for (Expression field : fields.get(i)) {
                    if (!kindOf(field, i, kinds).equals("*")) {
                        return false;
                    }
                }
            }
            return true;
        }

        private void keep(List<Integer> group, List<String[]> kinds) {
            for (int j : group) {
                if (settledKinds.get(j) == null) {
                    settledKinds.set(j, kinds.get(j).clone());
                }
                for (int p = 0; p < parameters.get(j); p++) {
                    couldBe.get(j).add(p + " " + NUMBERED.indexOf(kinds.get(j)[p]));
                }
            }
        }

        private String kindOf(Expression e, int i, List<String[]> kinds) {
            if (e.f() == null) {
                return e.leaf() < 3 ? kinds.get(i)[e.leaf() - 1] : kindOfConstructor(e.leaf() - 3, kinds);
            }
            String f = kindOf(e.f(), i, kinds);
            String a = kindOf(e.a(), i, kinds);
            String start = "(" + a + " -> ";
            return f.startsWith(start) ? f.substring(start.length(), f.length() - 1) : NONE;
        }

        private String kindOfConstructor(int c, List<String[]> kinds) {
            if (c < 4) {
                return NUMBERED.get(c);
            }
            String[] own = kinds.get(c - 4);
            String kind = "*";
            for (int p = own.length - 1; p >= 0; p--) {
                kind = "(" + own[p] + " -> " + kind + ")";
            }
            return kind;
        }
    }

    private static int wrong = 0;
    private static long state = 20261115L;

    // The same numbers in every run of the test, so that a failure can be seen again.
    private static int pick(int bound) {
        state = state * 6364136223846793005L + 1442695040888963407L;
        return (int) ((state >>> 33) % bound);
    }

    private static int mostly(int usual, int odds) {
        return pick(odds) == 0 ? pick(14) - 2 : pick(usual);
    }

    private final KindJudge judge = new KindJudge();
    private final Model model = new Model();
    private final List<String> calls = new ArrayList<>();

    private void due(String call, long got, long want) {
        calls.add(call + " = " + got);
        if (got != want && wrong++ < 3) {
            System.out.println(String.join("; ", calls) + ", due is " + want);
        }
    }

    private void due(String call, boolean got, boolean want) {
        due(call, got ? 1 : 0, want ? 1 : 0);
    }

    private void append(int i, int token) {
        due("token(" + i + ", " + token + ")", judge.token(i, token), model.token(i, token));
    }

    private int anyLeaf(int i) {
        int own = model.parameters.get(i);
        if (own > 0 && pick(3) == 0) {
            return 1 + pick(own);
        }
        return pick(3) == 0 ? 3 + pick(4) : 7 + pick(model.parameters.size());
    }

    private int arguments(int head) {
        switch (head) {
            case 1, 2: return pick(3);
            case 3: return 0;
            case 4, 6: return 1;
            case 5: return 2;
            default: return model.parameters.get(head - 7);
        }
    }

    private List<Integer> expression(int i, int depth) {
        int head = anyLeaf(i);
        int arguments = depth == 0 ? arguments(head) : pick(arguments(head) + 1);
        List<Integer> row = new ArrayList<>();
        for (int n = 0; n < arguments; n++) {
            row.add(0);
        }
        row.add(head);
        for (int n = 0; n < arguments; n++) {
            row.addAll(depth < 2 && pick(3) == 0 ? expression(i, depth + 1) : List.of(anyLeaf(i)));
        }
        return row;
    }

    private boolean keepsWell(int i, List<Integer> row) {
        int before = model.tokens.get(i).size();
        for (int token : row) {
            model.token(i, token);
        }
        boolean well = model.well(i);
        while (model.tokens.get(i).size() > before) {
            model.back(i);
        }
        return well;
    }

    /** Fields made at random are seldom well together, so of several one is taken that is, if there is one. */
    private void appendField(int i) {
        if (!model.has(i)) {
            append(i, 3);
            return;
        }
        List<Integer> row = expression(i, 0);
        for (int n = 0; n < 10 && !keepsWell(i, row); n++) {
            row = expression(i, 0);
        }
        for (int token : row) {
            append(i, token);
        }
    }

    private void takeBack(int i, int count) {
        for (int n = 0; n < count; n++) {
            due("back(" + i + ")", judge.back(i), model.back(i));
        }
    }

    private void declare() {
        int parameters = mostly(3, 20);
        due("declare(" + parameters + ")", judge.declare(parameters), model.declare(parameters));
    }

    private void clear() {
        judge.clear();
        model.clear();
        calls.add("clear()");
    }

    private void change() {
        int i = mostly(4, 20);
        switch (pick(20)) {
            case 0 -> append(i, mostly(11, 10));
            case 1 -> takeBack(i, 1 + pick(5));
            case 2, 3, 4, 5 -> declare();
            case 6, 7, 8 -> takeBackNotWell();
            case 9 -> {
                if (pick(8) == 0) {
                    clear();
                }
            }
            default -> appendField(i);
        }
    }

    /** Takes a type that is not well back to few tokens, as else it would stay not well for most of the run. */
    private void takeBackNotWell() {
        for (int i = 0; i < model.parameters.size(); i++) {
            if (!model.well(i) && pick(2) == 0) {
                takeBack(i, pick(model.tokens.get(i).size() + 1));
            }
        }
    }

    private void ask() {
        int i = mostly(4, 20);
        int j = mostly(4, 20);
        int p = mostly(2, 20);
        int k = mostly(4, 20);
        int c = mostly(8, 20);
        int d = mostly(8, 20);
        switch (pick(9)) {
            case 0 -> due("types()", judge.types(), model.parameters.size());
            case 1 -> due("parameters(" + i + ")", judge.parameters(i), model.has(i) ? model.parameters.get(i) : -1);
            case 2 -> due("fields(" + i + ")", judge.fields(i), model.has(i) ? model.fields(i).size() : -1);
            case 3 -> due("needs(" + i + ", " + j + ")", judge.needs(i, j), model.needs(i, j));
            case 4 -> due("group(" + i + ")", judge.group(i), model.group(i));
            case 5 -> due("well(" + i + ")", judge.well(i), model.well(i));
            case 6 -> due("kind(" + i + ", " + p + ")", judge.kind(i, p), model.kind(i, p));
            case 7 -> due("could(" + i + ", " + p + ", " + k + ")", judge.could(i, p, k), model.could(i, p, k));
            default -> due("applied(" + c + ", " + d + ")", judge.applied(c, d), model.applied(c, d));
        }
    }

    private void run() {
        // One change may take all tokens of all types back, and no run goes on after the last promised call.
        while (calls.size() < CALLS - 4 * 20) {
            change();
            for (int n = 0; n < 8 && calls.size() < CALLS; n++) {
                ask();
            }
        }
    }

    public static void main(String[] args) {
        for (int run = 0; run < RUNS; run++) {
            new ModelTest().run();
        }
        System.out.println(wrong == 0 ? "all answers are as due" : wrong + " answers are not as due");
        if (wrong != 0) {
            System.exit(1);
        }
    }
}
