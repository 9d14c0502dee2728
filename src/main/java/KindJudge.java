/** Judges the kinds of small declarations of types with parameters. */
public final class KindJudge {
    public static final int BAD = -1;
    public static final int FULL = -2;

    private static final int MOST_TYPES = 4;
    private static final int MOST_PARAMETERS = 6;
    private static final int MOST_OWN_PARAMETERS = 2;
    private static final int MOST_TOKENS = 20;
    private static final int TOKEN_ROOM = 80;
    private static final int SLOT_ROOM = 8;

    private static final int APPLY = 0;
    private static final int FIRST_PARAMETER_TOKEN = 1;
    private static final int FIRST_CONSTRUCTOR_TOKEN = 3;
    private static final int LAST_TOKEN = 10;

    private static final int CONSTRUCTORS = 8;
    private static final int BUILT_IN = 4;
    private static final int NUMBERED_KINDS = 4;

    /*
     * Every kind that can arise is a row of at most two arguments, each with a numbered kind, that ends in *.
     * So (k -> m) is coded as the number of k in the two lowest bits with the code of m above them: kinds are
     * equal just when their codes are, and applying is a shift.
     */
    private static final int NO_KIND = 0;
    private static final int STAR = 1;
    private static final int STAR_TO_STAR = 4;
    private static final int STAR_TO_STAR_TO_STAR = 16;
    private static final int STAR_TO_STAR_THEN_STAR = 5;
    private static final int NUMBER_BITS = 2;
    private static final int NUMBER_MASK = 3;

    private int typeCount = 0;
    private int parameterTotal = 0;
    private final int[] parameterCount = new int[MOST_TYPES];
    private final int[] tokenCount = new int[MOST_TYPES];
    private final int[] tokens = new int[TOKEN_ROOM];
    private final int[] fieldCount = new int[MOST_TYPES];
    private final int[] fieldEnd = new int[MOST_TYPES];

    /* What follows is worked out from the declarations, and anew only when a call asks after a change. */
    private boolean stale = true;
    private int wellTypes = 0;
    private final int[] neededTypes = new int[MOST_TYPES];
    private final int[] slotKind = new int[SLOT_ROOM];
    private final int[] slotCould = new int[SLOT_ROOM];
    private final int[] constructorCode = new int[CONSTRUCTORS];

    private final int[] groupSlots = new int[SLOT_ROOM];
    private final int[] stack = new int[MOST_TOKENS];

    public KindJudge() {
        // Built-in constructor n has kind number n, so these four also serve as the codes of the numbered kinds.
        constructorCode[0] = STAR;
        constructorCode[1] = STAR_TO_STAR;
        constructorCode[2] = STAR_TO_STAR_TO_STAR;
        constructorCode[3] = STAR_TO_STAR_THEN_STAR;
    }

    public int declare(int parameters) {
        if (parameters < 0 || parameters > MOST_OWN_PARAMETERS) {
            return BAD;
        }
        if (typeCount >= MOST_TYPES || parameterTotal + parameters > MOST_PARAMETERS) {
            return FULL;
        }
        int type = typeCount;
        parameterCount[type] = parameters;
        tokenCount[type] = 0;
        fieldCount[type] = 0;
        fieldEnd[type] = 0;
        typeCount = type + 1;
        parameterTotal += parameters;
        stale = true;
        return type;
    }

    public int token(int i, int token) {
        if (!isDeclared(i) || !mayStandIn(i, token)) {
            return BAD;
        }
        if (tokenCount[i] >= MOST_TOKENS) {
            return FULL;
        }
        tokens[i * MOST_TOKENS + tokenCount[i]] = token;
        tokenCount[i]++;
        findFields(i);
        stale = true;
        return fieldCount[i];
    }

    public int back(int i) {
        if (!isDeclared(i) || tokenCount[i] == 0) {
            return BAD;
        }
        tokenCount[i]--;
        findFields(i);
        stale = true;
        return tokens[i * MOST_TOKENS + tokenCount[i]];
    }

    public int types() {
        return typeCount;
    }

    public int parameters(int i) {
        return isDeclared(i) ? parameterCount[i] : BAD;
    }

    public int fields(int i) {
        return isDeclared(i) ? fieldCount[i] : BAD;
    }

    public boolean needs(int i, int j) {
        if (!isDeclared(i) || !isDeclared(j)) {
            return false;
        }
        settle();
        return holds(neededTypes[i], j);
    }

    public int group(int i) {
        if (!isDeclared(i)) {
            return BAD;
        }
        settle();
        int members = membersWith(i);
        for (int j = 0; j < i; j++) {
            if (holds(members, j)) {
                return j;
            }
        }
        return i;
    }

    public boolean well(int i) {
        if (!isDeclared(i)) {
            return false;
        }
        settle();
        return holds(wellTypes, i);
    }

    public int kind(int i, int p) {
        if (!hasParameter(i, p)) {
            return BAD;
        }
        settle();
        return holds(wellTypes, i) ? slotKind[i * MOST_OWN_PARAMETERS + p] : BAD;
    }

    public boolean could(int i, int p, int k) {
        if (!hasParameter(i, p) || k < 0 || k >= NUMBERED_KINDS) {
            return false;
        }
        settle();
        return holds(wellTypes, i) && holds(slotCould[i * MOST_OWN_PARAMETERS + p], k);
    }

    public int applied(int c, int d) {
        settle();
        if (!hasKind(c) || !hasKind(d)) {
            return BAD;
        }
        int code = codeOfApplying(constructorCode[c], constructorCode[d]);
        for (int number = 0; number < NUMBERED_KINDS; number++) {
            if (constructorCode[number] == code) {
                return number;
            }
        }
        return BAD;
    }

    public void clear() {
        typeCount = 0;
        parameterTotal = 0;
        stale = true;
    }

    private boolean isDeclared(int i) {
        return i >= 0 && i < typeCount;
    }

    private boolean hasParameter(int i, int p) {
        return isDeclared(i) && p >= 0 && p < parameterCount[i];
    }

    private boolean mayStandIn(int i, int token) {
        if (token < APPLY || token > LAST_TOKEN) {
            return false;
        }
        if (token == APPLY) {
            return true;
        }
        if (token < FIRST_CONSTRUCTOR_TOKEN) {
            return hasParameter(i, token - FIRST_PARAMETER_TOKEN);
        }
        int constructor = token - FIRST_CONSTRUCTOR_TOKEN;
        return constructor < BUILT_IN || isDeclared(constructor - BUILT_IN);
    }

    private boolean hasKind(int constructor) {
        if (constructor < 0 || constructor >= CONSTRUCTORS) {
            return false;
        }
        return constructor < BUILT_IN || holds(wellTypes, constructor - BUILT_IN);
    }

    private static boolean holds(int set, int member) {
        return ((set >> member) & 1) != 0;
    }

    private void findFields(int i) {
        int awaited = 0;
        int count = 0;
        int end = 0;
        for (int at = 0; at < tokenCount[i]; at++) {
            if (awaited == 0) {
                awaited = 1;
            }
            awaited += tokens[i * MOST_TOKENS + at] == APPLY ? 1 : -1;
            if (awaited == 0) {
                count++;
                end = at + 1;
            }
        }
        fieldCount[i] = count;
        fieldEnd[i] = end;
    }

    private void settle() {
        if (!stale) {
            return;
        }
        findNeeds();
        wellTypes = 0;
        int settled = 0;
        // Each round settles at least one group more, since the groups' needs of each other never run in a circle.
        for (int round = 0; round < MOST_TYPES; round++) {
            for (int i = 0; i < typeCount; i++) {
                int members = membersWith(i);
                int others = neededTypes[i] & ~members;
                if (!holds(settled, i) && (others & ~settled) == 0) {
                    if ((others & ~wellTypes) == 0 && settleChoice(members)) {
                        wellTypes |= members;
                    }
                    settled |= members;
                }
            }
        }
        stale = false;
    }

    private void findNeeds() {
        for (int i = 0; i < typeCount; i++) {
            neededTypes[i] = typesNamedIn(i);
        }
        for (int via = 0; via < typeCount; via++) {
            for (int i = 0; i < typeCount; i++) {
                if (holds(neededTypes[i], via)) {
                    neededTypes[i] |= neededTypes[via];
                }
            }
        }
    }

    private int typesNamedIn(int i) {
        int named = 0;
        for (int at = 0; at < fieldEnd[i]; at++) {
            int type = tokens[i * MOST_TOKENS + at] - FIRST_CONSTRUCTOR_TOKEN - BUILT_IN;
            if (type >= 0) {
                named |= 1 << type;
            }
        }
        return named;
    }

    private int membersWith(int i) {
        int members = 1 << i;
        for (int j = 0; j < typeCount; j++) {
            if (holds(neededTypes[i], j) && holds(neededTypes[j], i)) {
                members |= 1 << j;
            }
        }
        return members;
    }

    private boolean settleChoice(int members) {
        int count = listSlots(members);
        int choices = 1 << (NUMBER_BITS * count);
        int least = choices;
        for (int choice = 0; choice < choices; choice++) {
            take(choice, count, members);
            if (fits(members)) {
                noteCould(count);
                least = least == choices ? choice : least;
            }
        }
        if (least == choices) {
            return false;
        }
        take(least, count, members);
        return true;
    }

    private int listSlots(int members) {
        int count = 0;
        for (int i = 0; i < typeCount; i++) {
            for (int p = 0; p < parameterCount[i] && holds(members, i); p++) {
                groupSlots[count] = i * MOST_OWN_PARAMETERS + p;
                slotCould[groupSlots[count]] = 0;
                count++;
            }
        }
        return count;
    }

    private void take(int choice, int count, int members) {
        // The last parameter gets the lowest bits, so that counting up runs through the choices in dictionary order.
        int rest = choice;
        for (int at = count - 1; at >= 0; at--) {
            slotKind[groupSlots[at]] = rest & NUMBER_MASK;
            rest >>= NUMBER_BITS;
        }
        for (int i = 0; i < typeCount; i++) {
            if (holds(members, i)) {
                constructorCode[BUILT_IN + i] = codeOfType(i);
            }
        }
    }

    private int codeOfType(int i) {
        int code = STAR;
        for (int p = parameterCount[i] - 1; p >= 0; p--) {
            code = (code << NUMBER_BITS) | slotKind[i * MOST_OWN_PARAMETERS + p];
        }
        return code;
    }

    private void noteCould(int count) {
        for (int at = 0; at < count; at++) {
            int slot = groupSlots[at];
            slotCould[slot] |= 1 << slotKind[slot];
        }
    }

    private boolean fits(int members) {
        for (int i = 0; i < typeCount; i++) {
            if (holds(members, i) && !allFieldsAreStar(i)) {
                return false;
            }
        }
        return true;
    }

    private boolean allFieldsAreStar(int i) {
        // Read from the end, both parts of an application are on the stack when its APPLY comes.
        int height = 0;
        for (int at = fieldEnd[i] - 1; at >= 0; at--) {
            int token = tokens[i * MOST_TOKENS + at];
            if (token == APPLY) {
                height--;
                stack[height - 1] = codeOfApplying(stack[height], stack[height - 1]);
            } else {
                stack[height] = codeOfLeaf(i, token);
                height++;
            }
        }
        for (int at = 0; at < height; at++) {
            if (stack[at] != STAR) {
                return false;
            }
        }
        return true;
    }

    private int codeOfLeaf(int i, int token) {
        if (token >= FIRST_CONSTRUCTOR_TOKEN) {
            return constructorCode[token - FIRST_CONSTRUCTOR_TOKEN];
        }
        int number = slotKind[i * MOST_OWN_PARAMETERS + token - FIRST_PARAMETER_TOKEN];
        return constructorCode[number];
    }

    private int codeOfApplying(int f, int a) {
        if (f == NO_KIND || f == STAR) {
            return NO_KIND;
        }
        return constructorCode[f & NUMBER_MASK] == a ? f >> NUMBER_BITS : NO_KIND;
    }
}
