/** A first-match rule list for numbered calls with two arguments. */
public final class SyscallFilter {
    public static final int EMPTY = 0;
    public static final int EQUAL = 1;
    public static final int DIFFERENT = 2;
    public static final int LESS = 3;
    public static final int LESS_OR_EQUAL = 4;
    public static final int GREATER = 5;
    public static final int GREATER_OR_EQUAL = 6;

    private static final int NUMBERS = 32;
    private static final int ACTIONS = 4;
    private static final int ARGUMENTS = 2;
    private static final int SLOTS = 2;
    private static final int COMPARISONS = 8;
    private static final int NOT_A_COMPARISON = 7;
    private static final int MAX_RULES = 12;
    private static final int NO_RULE = -2;

    // The draft, and the rule that is on its way during a move, are rows behind
    // the list, so that one way of copying serves for every kind of rule.
    private static final int DRAFT = MAX_RULES;
    private static final int MOVING = MAX_RULES + 1;
    private static final int ROWS = MAX_RULES + 2;
    private static final int CONDITIONS = ROWS * SLOTS;

    private final int[] firsts = new int[ROWS];
    private final int[] lasts = new int[ROWS];
    private final int[] actions = new int[ROWS];

    // The condition of a slot of a row stands at row * SLOTS + slot.
    private final int[] comparisons = new int[CONDITIONS];
    private final int[] sources = new int[CONDITIONS];
    private final int[] masks = new int[CONDITIONS];
    private final int[] values = new int[CONDITIONS];

    private final int[] arguments = new int[ARGUMENTS];
    private int count = 0;
    private int defaultAction = 0;

    public SyscallFilter() {
        firsts[DRAFT] = 0;
        lasts[DRAFT] = NUMBERS - 1;
    }

    public int range(int first, int last) {
        if (!isNumber(first) || !isNumber(last)) {
            return -1;
        }
        if (first > last) {
            return -2;
        }
        firsts[DRAFT] = first;
        lasts[DRAFT] = last;
        return 0;
    }

    public int condition(int slot, int what, int mask, int value) {
        if (slot < 0 || slot >= SLOTS) {
            return -1;
        }
        if (!isWhat(what)) {
            return -2;
        }
        int at = DRAFT * SLOTS + slot;
        comparisons[at] = what % COMPARISONS;
        sources[at] = what / COMPARISONS;
        masks[at] = mask;
        values[at] = value;
        return 0;
    }

    public int put(int pos, int action) {
        if (pos < 0 || pos > count) {
            return -1;
        }
        if (!isAction(action)) {
            return -2;
        }
        if (count >= MAX_RULES) {
            return -3;
        }
        openGap(pos);
        copyRule(DRAFT, pos);
        actions[pos] = action;
        return count;
    }

    public int remove(int pos) {
        if (!isRule(pos)) {
            return -1;
        }
        int action = actions[pos];
        closeGap(pos);
        return action;
    }

    public int move(int from, int to) {
        if (!isRule(from)) {
            return -1;
        }
        if (!isRule(to)) {
            return -2;
        }
        copyRule(from, MOVING);
        closeGap(from);
        openGap(to);
        copyRule(MOVING, to);
        return 0;
    }

    public int change(int pos, int action) {
        if (!isRule(pos)) {
            return -1;
        }
        if (!isAction(action)) {
            return -2;
        }
        int before = actions[pos];
        actions[pos] = action;
        return before;
    }

    public int fallback(int action) {
        if (!isAction(action)) {
            return -1;
        }
        int before = defaultAction;
        defaultAction = action;
        return before;
    }

    public int rules() {
        return count;
    }

    public int argument(int i, int value) {
        if (i < 0 || i >= ARGUMENTS) {
            return -1;
        }
        arguments[i] = value;
        return 0;
    }

    public int decide(int number) {
        if (!isNumber(number)) {
            return -1;
        }
        return verdict(number);
    }

    public int matched(int number) {
        if (!isNumber(number)) {
            return -1;
        }
        return firstMatch(number);
    }

    public int countWith(int action, int first, int last) {
        if (!isNumber(first) || !isNumber(last)) {
            return -1;
        }
        if (first > last) {
            return -2;
        }
        if (!isAction(action)) {
            return -3;
        }
        int found = 0;
        for (int number = first; number <= last; number++) {
            if (verdict(number) == action) {
                found++;
            }
        }
        return found;
    }

    public int nextWith(int action, int from) {
        if (!isAction(action)) {
            return -1;
        }
        if (!isNumber(from)) {
            return -2;
        }
        for (int number = from; number < NUMBERS; number++) {
            if (verdict(number) == action) {
                return number;
            }
        }
        return -3;
    }

    public int matching(int number) {
        if (!isNumber(number)) {
            return -1;
        }
        int found = 0;
        for (int pos = 0; pos < count; pos++) {
            if (matches(pos, number)) {
                found++;
            }
        }
        return found;
    }

    public int hidden(int pos) {
        if (!isRule(pos)) {
            return -1;
        }
        for (int number = firsts[pos]; number <= lasts[pos]; number++) {
            if (!alwaysMatchedBefore(pos, number)) {
                return 0;
            }
        }
        return 1;
    }

    public int stretches() {
        int found = 1;
        for (int number = 1; number < NUMBERS; number++) {
            if (!sameRulesAsBelow(number)) {
                found++;
            }
        }
        return found;
    }

    public int open() {
        int found = 0;
        for (int number = 0; number < NUMBERS; number++) {
            if (!inAnyRange(number)) {
                found++;
            }
        }
        return found;
    }

    private static boolean isNumber(int number) {
        return number >= 0 && number < NUMBERS;
    }

    private static boolean isAction(int action) {
        return action >= 0 && action < ACTIONS;
    }

    private static boolean isWhat(int what) {
        return what >= 0 && what < ARGUMENTS * COMPARISONS
                && what % COMPARISONS != NOT_A_COMPARISON;
    }

    private boolean isRule(int pos) {
        return pos >= 0 && pos < count;
    }

    private void copyRule(int from, int to) {
        firsts[to] = firsts[from];
        lasts[to] = lasts[from];
        actions[to] = actions[from];
        for (int slot = 0; slot < SLOTS; slot++) {
            int source = from * SLOTS + slot;
            int target = to * SLOTS + slot;
            comparisons[target] = comparisons[source];
            sources[target] = sources[source];
            masks[target] = masks[source];
            values[target] = values[source];
        }
    }

    private void openGap(int pos) {
        for (int at = count; at > pos; at--) {
            copyRule(at - 1, at);
        }
        count++;
    }

    private void closeGap(int pos) {
        count--;
        for (int at = pos; at < count; at++) {
            copyRule(at + 1, at);
        }
    }

    private int verdict(int number) {
        int pos = firstMatch(number);
        return pos == NO_RULE ? defaultAction : actions[pos];
    }

    private int firstMatch(int number) {
        for (int pos = 0; pos < count; pos++) {
            if (matches(pos, number)) {
                return pos;
            }
        }
        return NO_RULE;
    }

    private boolean matches(int pos, int number) {
        if (!inRange(pos, number)) {
            return false;
        }
        for (int slot = 0; slot < SLOTS; slot++) {
            if (!isMet(pos * SLOTS + slot)) {
                return false;
            }
        }
        return true;
    }

    private boolean inRange(int pos, int number) {
        return number >= firsts[pos] && number <= lasts[pos];
    }

    private boolean isMet(int at) {
        int masked = arguments[sources[at]] & masks[at];
        int value = values[at];
        switch (comparisons[at]) {
            case EQUAL:
                return masked == value;
            case DIFFERENT:
                return masked != value;
            case LESS:
                return masked < value;
            case LESS_OR_EQUAL:
                return masked <= value;
            case GREATER:
                return masked > value;
            case GREATER_OR_EQUAL:
                return masked >= value;
            default:
                return true;
        }
    }

    private boolean alwaysMatchedBefore(int pos, int number) {
        for (int earlier = 0; earlier < pos; earlier++) {
            if (inRange(earlier, number) && isUnconditional(earlier)) {
                return true;
            }
        }
        return false;
    }

    private boolean isUnconditional(int pos) {
        for (int slot = 0; slot < SLOTS; slot++) {
            if (comparisons[pos * SLOTS + slot] != EMPTY) {
                return false;
            }
        }
        return true;
    }

    private boolean sameRulesAsBelow(int number) {
        for (int pos = 0; pos < count; pos++) {
            if (inRange(pos, number) != inRange(pos, number - 1)) {
                return false;
            }
        }
        return true;
    }

    private boolean inAnyRange(int number) {
        for (int pos = 0; pos < count; pos++) {
            if (inRange(pos, number)) {
                return true;
            }
        }
        return false;
    }
}
