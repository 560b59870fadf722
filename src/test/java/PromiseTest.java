import java.util.ArrayList;
import java.util.List;

/** Each promise of the document by itself: ordinary inputs, the edges it names, and wrong inputs. */
public final class PromiseTest {
    private static final int MIN = Integer.MIN_VALUE;
    private static final int MAX = Integer.MAX_VALUE;
    private static final int ARGUMENT_1 = 8;

    private static int wrong = 0;
    private static int checks = 0;

    public static void main(String[] args) {
        newObject();
        range();
        rangeRefused();
        condition();
        conditionEmpty();
        conditionComparisons();
        conditionRefused();
        put();
        putRefused();
        remove();
        removeRefused();
        move();
        moveRefused();
        change();
        fallback();
        rules();
        argument();
        decide();
        matched();
        countWith();
        nextWith();
        matching();
        hidden();
        hiddenNot();
        stretches();
        open();
        questionsChangeNothing();
        draftStays();
        objectsAreApart();
        System.out.println(wrong == 0 ? checks + " answers are as due" : wrong + " answers are not as due");
        if (wrong != 0) {
            System.exit(1);
        }
    }

    private static void due(int promise, String call, int got, int want) {
        checks++;
        if (got != want) {
            wrong++;
            System.out.println("promise " + promise + ": " + call + " answered " + got + ", due is " + want);
        }
    }

    /** A rule with both conditions empty; leaves the draft so. */
    private static void putPlain(SyscallFilter x, int pos, int first, int last, int action) {
        x.condition(0, SyscallFilter.EMPTY, 0, 0);
        x.condition(1, SyscallFilter.EMPTY, 0, 0);
        x.range(first, last);
        x.put(pos, action);
    }

    /** Rules 0 .. n-1, where rule i has the range i .. i and so can be told by its number. */
    private static SyscallFilter withSingles(int n) {
        SyscallFilter x = new SyscallFilter();
        for (int i = 0; i < n; i++) {
            putPlain(x, i, i, i, i % 4);
        }
        return x;
    }

    /** The order of the rules made by withSingles, told by their call numbers. */
    private static void dueOrder(int promise, String after, SyscallFilter x, int... numbers) {
        due(promise, after + ", rules()", x.rules(), numbers.length);
        for (int pos = 0; pos < numbers.length; pos++) {
            due(promise, after + ", matched(" + numbers[pos] + ")", x.matched(numbers[pos]), pos);
            due(promise, after + ", decide(" + numbers[pos] + ")", x.decide(numbers[pos]), numbers[pos] % 4);
        }
    }

    private static void newObject() {
        SyscallFilter x = new SyscallFilter();
        due(1, "rules()", x.rules(), 0);
        due(1, "open()", x.open(), 32);
        due(1, "stretches()", x.stretches(), 1);
        due(1, "hidden(0)", x.hidden(0), -1);
        for (int number = 0; number < 32; number++) {
            due(1, "decide(" + number + ")", x.decide(number), 0);
            due(1, "matched(" + number + ")", x.matched(number), -2);
            due(1, "matching(" + number + ")", x.matching(number), 0);
        }
        due(1, "fallback(0), the default at first", x.fallback(0), 0);

        // The draft at first has the range 0 .. 31 and empty conditions.
        x.put(0, 2);
        x.put(1, 1);
        due(1, "countWith(2, 0, 31) with the first draft", x.countWith(2, 0, 31), 32);
        due(1, "hidden(1) with the first draft", x.hidden(1), 1);
        x.argument(0, MIN);
        x.argument(1, MAX);
        due(1, "countWith(2, 0, 31) with other arguments", x.countWith(2, 0, 31), 32);

        x.range(0, 31);
        x.put(0, 3);
        due(1, "hidden(1), the first draft behind 0 .. 31", x.hidden(1), 1);

        // Both arguments are 0 at first.
        for (int i = 0; i < 2; i++) {
            SyscallFilter y = new SyscallFilter();
            y.condition(0, 8 * i + SyscallFilter.EQUAL, -1, 0);
            y.put(0, 3);
            due(1, "decide(0) with argument " + i + " as at first", y.decide(0), 3);
        }
    }

    private static void range() {
        int[][] ranges = {{0, 31}, {0, 0}, {31, 31}, {4, 9}, {30, 31}, {0, 1}};
        for (int[] r : ranges) {
            SyscallFilter x = new SyscallFilter();
            due(2, "range(" + r[0] + ", " + r[1] + ")", x.range(r[0], r[1]), 0);
            x.put(0, 1);
            for (int number = 0; number < 32; number++) {
                int want = number >= r[0] && number <= r[1] ? 1 : 0;
                due(2, "decide(" + number + ") after range(" + r[0] + ", " + r[1] + ")", x.decide(number), want);
            }
        }
    }

    private static void rangeRefused() {
        SyscallFilter x = new SyscallFilter();
        x.range(7, 8);
        due(2, "range(-1, 5)", x.range(-1, 5), -1);
        due(2, "range(0, 32)", x.range(0, 32), -1);
        due(2, "range(0, -1)", x.range(0, -1), -1);
        due(2, "range(32, 31)", x.range(32, 31), -1);
        due(2, "range(32, 0)", x.range(32, 0), -1);
        due(2, "range(MIN, MAX)", x.range(MIN, MAX), -1);
        due(2, "range(3, 2)", x.range(3, 2), -2);
        due(2, "range(31, 0)", x.range(31, 0), -2);
        x.put(0, 1);
        due(2, "countWith(1, 0, 31) after refused ranges", x.countWith(1, 0, 31), 2);
        due(2, "nextWith(1, 0) after refused ranges", x.nextWith(1, 0), 7);
    }

    private static void condition() {
        // Both conditions must be met, in whichever slot they stand.
        for (int slot = 0; slot < 2; slot++) {
            SyscallFilter x = new SyscallFilter();
            due(3, "condition(slot, EQUAL, 255, 7)", x.condition(slot, SyscallFilter.EQUAL, 255, 7), 0);
            due(3, "condition(1 - slot, 8 + GREATER, -1, 100)",
                    x.condition(1 - slot, ARGUMENT_1 + SyscallFilter.GREATER, -1, 100), 0);
            x.put(0, 1);
            due(3, "decide(0), neither met", x.decide(0), 0);
            x.argument(0, 0x1207);
            due(3, "decide(0), one met", x.decide(0), 0);
            x.argument(1, 101);
            due(3, "decide(0), both met", x.decide(0), 1);
            x.argument(0, 8);
            due(3, "decide(0), the other met", x.decide(0), 0);
        }
        // The conditions of the next rule play no part.
        SyscallFilter z = new SyscallFilter();
        z.put(0, 1);
        z.put(1, 2);
        z.condition(0, SyscallFilter.DIFFERENT, 0, 0);
        z.condition(1, SyscallFilter.DIFFERENT, 0, 0);
        z.put(1, 3);
        due(3, "decide(0) before a rule never met", z.decide(0), 1);
        due(3, "hidden(2) before a rule never met", z.hidden(2), 1);
        // The second condition on a slot takes the place of the first.
        SyscallFilter y = new SyscallFilter();
        y.condition(0, SyscallFilter.EQUAL, -1, 5);
        y.condition(0, ARGUMENT_1 + SyscallFilter.EQUAL, 3, 2);
        y.put(0, 1);
        y.argument(1, 6);
        due(3, "decide(0) after a condition set twice", y.decide(0), 1);
    }

    private static void conditionEmpty() {
        int[] empties = {SyscallFilter.EMPTY, ARGUMENT_1 + SyscallFilter.EMPTY};
        for (int what : empties) {
            SyscallFilter x = new SyscallFilter();
            x.condition(0, SyscallFilter.EQUAL, -1, 99);
            due(3, "condition(0, " + what + ", 5, 9)", x.condition(0, what, 5, 9), 0);
            due(3, "condition(1, " + what + ", MIN, MAX)", x.condition(1, what, MIN, MAX), 0);
            x.put(0, 1);
            x.put(1, 2);
            due(3, "decide(0) with empty conditions", x.decide(0), 1);
            x.argument(0, -1);
            x.argument(1, -1);
            due(3, "decide(31) with empty conditions", x.decide(31), 1);
            due(3, "hidden(1) behind empty conditions", x.hidden(1), 1);
        }
    }

    private static boolean compares(long left, int comparison, long right) {
        int sign = Long.compare(left, right);
        boolean[] met = {true, sign == 0, sign != 0, sign < 0, sign <= 0, sign > 0, sign >= 0};
        return met[comparison];
    }

    private static void conditionComparisons() {
        int[] numbers = {MIN, MIN + 1, -2, -1, 0, 1, 2, MAX - 1, MAX};
        int[] masks = {-1, 0, 1, MIN, MAX};
        for (int what = 0; what < 16; what++) {
            if (what % 8 == 7) {
                continue;
            }
            for (int value : numbers) {
                for (int mask : masks) {
                    SyscallFilter x = new SyscallFilter();
                    x.condition(1, what, mask, value);
                    x.put(0, 1);
                    x.argument(1 - what / 8, 12345);
                    for (int argument : numbers) {
                        x.argument(what / 8, argument);
                        int want = compares(argument & mask, what % 8, value) ? 1 : 0;
                        due(3, "decide(0) with condition(1, " + what + ", " + mask + ", " + value
                                + ") and argument " + argument, x.decide(0), want);
                    }
                }
            }
        }
    }

    private static void conditionRefused() {
        SyscallFilter x = new SyscallFilter();
        x.condition(0, SyscallFilter.EQUAL, -1, 1);
        x.condition(1, ARGUMENT_1 + SyscallFilter.EQUAL, -1, 2);
        int[] slots = {-1, 2, MIN, MAX};
        for (int slot : slots) {
            due(3, "condition(" + slot + ", 0, 0, 0)", x.condition(slot, 0, 0, 0), -1);
            due(3, "condition(" + slot + ", 7, 0, 0)", x.condition(slot, 7, 0, 0), -1);
        }
        int[] whats = {-1, -8, -7, 7, 15, 16, 17, 23, MIN, MAX};
        for (int what : whats) {
            due(3, "condition(0, " + what + ", 0, 0)", x.condition(0, what, 0, 0), -2);
            due(3, "condition(1, " + what + ", 0, 0)", x.condition(1, what, 0, 0), -2);
        }
        due(3, "condition(1, 14, -1, 2), the greatest what", new SyscallFilter().condition(1, 14, -1, 2), 0);
        x.put(0, 3);
        due(3, "decide(0) after refused conditions, not met", x.decide(0), 0);
        x.argument(0, 1);
        due(3, "decide(0) after refused conditions, half met", x.decide(0), 0);
        x.argument(1, 2);
        due(3, "decide(0) after refused conditions, met", x.decide(0), 3);
    }

    private static void put() {
        SyscallFilter x = new SyscallFilter();
        x.range(1, 1);
        due(4, "put(0, 1)", x.put(0, 1), 1);
        x.range(3, 3);
        due(4, "put(1, 3) at the end", x.put(1, 3), 2);
        x.range(2, 2);
        due(4, "put(1, 2) in the middle", x.put(1, 2), 3);
        x.range(0, 0);
        due(4, "put(0, 0) at the start", x.put(0, 0), 4);
        dueOrder(4, "after put", x, 0, 1, 2, 3);

        // A rule that moves up keeps its conditions.
        SyscallFilter y = new SyscallFilter();
        y.condition(0, SyscallFilter.GREATER_OR_EQUAL, 12, 8);
        y.condition(1, ARGUMENT_1 + SyscallFilter.LESS, -1, -3);
        y.put(0, 1);
        putPlain(y, 0, 5, 5, 2);
        y.argument(0, 8);
        y.argument(1, -4);
        due(4, "decide(6), moved up and met", y.decide(6), 1);
        y.argument(1, -3);
        due(4, "decide(6), moved up and not met", y.decide(6), 0);
        due(4, "decide(5), put before", y.decide(5), 2);
    }

    private static void putRefused() {
        SyscallFilter x = new SyscallFilter();
        due(4, "put(1, 0) without rules", x.put(1, 0), -1);
        due(4, "put(-1, 0) without rules", x.put(-1, 0), -1);
        due(4, "put(1, 4), pos before action", x.put(1, 4), -1);
        due(4, "put(0, 4)", x.put(0, 4), -2);
        due(4, "put(0, -1)", x.put(0, -1), -2);
        due(4, "rules() after refused puts", x.rules(), 0);

        for (int i = 0; i < 12; i++) {
            x.range(i, i);
            due(4, "put(" + i + ", ..)", x.put(i, i % 4), i + 1);
        }
        x.range(20, 25);
        due(4, "put(0, 0) with 12 rules", x.put(0, 0), -3);
        due(4, "put(12, 3) with 12 rules", x.put(12, 3), -3);
        due(4, "put(13, 0) with 12 rules", x.put(13, 0), -1);
        due(4, "put(-1, 0) with 12 rules", x.put(-1, 0), -1);
        due(4, "put(MIN, 0) with 12 rules", x.put(MIN, 0), -1);
        due(4, "put(MAX, 0) with 12 rules", x.put(MAX, 0), -1);
        due(4, "put(12, 4), action before full", x.put(12, 4), -2);
        due(4, "put(0, MIN), action before full", x.put(0, MIN), -2);
        dueOrder(4, "after refused puts", x, 0, 1, 2, 3, 4, 5, 6, 7, 8, 9, 10, 11);
        due(4, "matched(20) after refused puts", x.matched(20), -2);
        x.remove(0);
        due(4, "put(11, 1) once there is room", x.put(11, 1), 12);
        due(4, "matched(20) with the draft of before", x.matched(20), 11);
    }

    private static void remove() {
        SyscallFilter x = withSingles(12);
        due(5, "remove(11), the last", x.remove(11), 3);
        dueOrder(5, "after remove(11)", x, 0, 1, 2, 3, 4, 5, 6, 7, 8, 9, 10);
        due(5, "matched(11)", x.matched(11), -2);
        due(5, "remove(0), the first", x.remove(0), 0);
        dueOrder(5, "after remove(0)", x, 1, 2, 3, 4, 5, 6, 7, 8, 9, 10);
        due(5, "remove(4), in the middle", x.remove(4), 1);
        dueOrder(5, "after remove(4)", x, 1, 2, 3, 4, 6, 7, 8, 9, 10);

        // A rule that moves down keeps its conditions.
        SyscallFilter y = new SyscallFilter();
        y.put(0, 2);
        y.condition(0, SyscallFilter.DIFFERENT, 6, 4);
        y.condition(1, ARGUMENT_1 + SyscallFilter.LESS_OR_EQUAL, 7, 5);
        y.put(1, 1);
        due(5, "remove(0)", y.remove(0), 2);
        y.argument(1, 13);
        due(5, "decide(0), moved down and met", y.decide(0), 1);
        y.argument(0, 5);
        due(5, "decide(0), moved down and not met", y.decide(0), 0);
        due(5, "remove(0), the only one", y.remove(0), 1);
        due(5, "rules()", y.rules(), 0);
    }

    private static void removeRefused() {
        due(5, "remove(0) without rules", new SyscallFilter().remove(0), -1);
        SyscallFilter x = withSingles(3);
        int[] positions = {-1, 3, 12, MIN, MAX};
        for (int pos : positions) {
            due(5, "remove(" + pos + ") with 3 rules", x.remove(pos), -1);
        }
        dueOrder(5, "after refused removes", x, 0, 1, 2);
    }

    private static void move() {
        SyscallFilter x = withSingles(12);
        due(6, "move(0, 11)", x.move(0, 11), 0);
        dueOrder(6, "after move(0, 11)", x, 1, 2, 3, 4, 5, 6, 7, 8, 9, 10, 11, 0);
        due(6, "move(11, 0)", x.move(11, 0), 0);
        dueOrder(6, "after move(11, 0)", x, 0, 1, 2, 3, 4, 5, 6, 7, 8, 9, 10, 11);
        due(6, "move(2, 5)", x.move(2, 5), 0);
        dueOrder(6, "after move(2, 5)", x, 0, 1, 3, 4, 5, 2, 6, 7, 8, 9, 10, 11);
        due(6, "move(8, 6)", x.move(8, 6), 0);
        dueOrder(6, "after move(8, 6)", x, 0, 1, 3, 4, 5, 2, 8, 6, 7, 9, 10, 11);
        due(6, "move(3, 3)", x.move(3, 3), 0);
        dueOrder(6, "after move(3, 3)", x, 0, 1, 3, 4, 5, 2, 8, 6, 7, 9, 10, 11);
        due(6, "move(0, 1)", x.move(0, 1), 0);
        dueOrder(6, "after move(0, 1)", x, 1, 0, 3, 4, 5, 2, 8, 6, 7, 9, 10, 11);

        // A moved rule keeps its conditions, and the draft stays.
        SyscallFilter y = new SyscallFilter();
        y.condition(0, SyscallFilter.EQUAL, 3, 1);
        y.condition(1, ARGUMENT_1 + SyscallFilter.EQUAL, 12, 4);
        y.put(0, 1);
        putPlain(y, 1, 9, 9, 2);
        y.move(0, 1);
        due(6, "put(2, 3) after a move", y.put(2, 3), 3);
        due(6, "stretches() after a move", y.stretches(), 3);
        y.argument(0, 5);
        y.argument(1, 6);
        due(6, "decide(9), met by the rule moved to", y.decide(9), 2);
        due(6, "decide(8), moved and met", y.decide(8), 1);
        y.argument(1, 8);
        due(6, "decide(8), moved and not met", y.decide(8), 0);
    }

    private static void moveRefused() {
        due(6, "move(0, 0) without rules", new SyscallFilter().move(0, 0), -1);
        SyscallFilter x = withSingles(3);
        int[] positions = {-1, 3, 12, MIN, MAX};
        for (int pos : positions) {
            due(6, "move(" + pos + ", 0)", x.move(pos, 0), -1);
            due(6, "move(" + pos + ", 3), from before to", x.move(pos, 3), -1);
            due(6, "move(0, " + pos + ")", x.move(0, pos), -2);
        }
        dueOrder(6, "after refused moves", x, 0, 1, 2);
    }

    private static void change() {
        SyscallFilter x = withSingles(4);
        due(7, "change(1, 3)", x.change(1, 3), 1);
        due(7, "change(1, 0)", x.change(1, 0), 3);
        due(7, "change(1, 0) again", x.change(1, 0), 0);
        due(7, "change(3, 2)", x.change(3, 2), 3);
        due(7, "decide(0)", x.decide(0), 0);
        due(7, "decide(1)", x.decide(1), 0);
        due(7, "decide(2)", x.decide(2), 2);
        due(7, "decide(3)", x.decide(3), 2);
        int[] positions = {-1, 4, 12, MIN, MAX};
        for (int pos : positions) {
            due(7, "change(" + pos + ", 1)", x.change(pos, 1), -1);
            due(7, "change(" + pos + ", 4), pos before action", x.change(pos, 4), -1);
        }
        int[] actions = {-1, 4, MIN, MAX};
        for (int action : actions) {
            due(7, "change(2, " + action + ")", x.change(2, action), -2);
        }
        due(7, "decide(2) after refused changes", x.decide(2), 2);
        due(7, "change(0, 1) without rules", new SyscallFilter().change(0, 1), -1);
        // The draft has no action: a change of a rule is not seen by the next put.
        x.range(9, 9);
        x.put(4, 1);
        due(7, "decide(9)", x.decide(9), 1);
    }

    private static void fallback() {
        SyscallFilter x = new SyscallFilter();
        due(8, "fallback(3)", x.fallback(3), 0);
        due(8, "decide(0)", x.decide(0), 3);
        due(8, "fallback(1)", x.fallback(1), 3);
        int[] actions = {-1, 4, MIN, MAX};
        for (int action : actions) {
            due(8, "fallback(" + action + ")", x.fallback(action), -1);
        }
        due(8, "decide(31) after refused fallbacks", x.decide(31), 1);
        putPlain(x, 0, 4, 4, 2);
        due(8, "decide(4), where a rule matches", x.decide(4), 2);
        due(8, "decide(5), where none does", x.decide(5), 1);
        due(8, "fallback(0)", x.fallback(0), 1);
        due(8, "decide(5)", x.decide(5), 0);
        due(8, "fallback(2)", x.fallback(2), 0);
    }

    private static void rules() {
        SyscallFilter x = new SyscallFilter();
        for (int i = 0; i < 12; i++) {
            due(9, "rules()", x.rules(), i);
            x.put(i / 2, 1);
        }
        due(9, "rules(), full", x.rules(), 12);
        x.put(0, 1);
        due(9, "rules() after a refused put", x.rules(), 12);
        x.move(0, 11);
        x.change(4, 2);
        due(9, "rules() after move and change", x.rules(), 12);
        for (int i = 11; i >= 0; i--) {
            x.remove(i / 2);
            due(9, "rules()", x.rules(), i);
        }
        x.remove(0);
        due(9, "rules() after a refused remove", x.rules(), 0);
    }

    private static void argument() {
        for (int i = 0; i < 2; i++) {
            SyscallFilter x = new SyscallFilter();
            x.condition(0, 8 * i + SyscallFilter.EQUAL, -1, 77);
            x.put(0, 1);
            due(10, "argument(" + i + ", 77)", x.argument(i, 77), 0);
            due(10, "decide(0), argument " + i + " set", x.decide(0), 1);
            due(10, "argument(" + (1 - i) + ", 5)", x.argument(1 - i, 5), 0);
            due(10, "decide(0), the other set", x.decide(0), 1);
            int[] wrongs = {-1, 2, MIN, MAX};
            for (int w : wrongs) {
                due(10, "argument(" + w + ", 6)", x.argument(w, 6), -1);
            }
            due(10, "decide(0) after refused arguments", x.decide(0), 1);
            due(10, "argument(" + i + ", MIN)", x.argument(i, MIN), 0);
            due(10, "decide(0), set anew", x.decide(0), 0);
            due(10, "argument(" + i + ", MAX)", x.argument(i, MAX), 0);
        }
    }

    private static void decide() {
        SyscallFilter x = new SyscallFilter();
        x.fallback(3);
        putPlain(x, 0, 10, 20, 2);
        putPlain(x, 1, 0, 15, 1);
        x.condition(0, SyscallFilter.EQUAL, -1, 9);
        x.range(12, 31);
        x.put(0, 0);
        int[][] bare = {{0, 1}, {9, 1}, {10, 2}, {15, 2}, {16, 2}, {20, 2}, {21, 3}, {31, 3}};
        for (int[] row : bare) {
            due(11, "decide(" + row[0] + ")", x.decide(row[0]), row[1]);
        }
        x.argument(0, 9);
        int[][] met = {{0, 1}, {11, 2}, {12, 0}, {20, 0}, {31, 0}};
        for (int[] row : met) {
            due(11, "decide(" + row[0] + ") with argument 0 at 9", x.decide(row[0]), row[1]);
        }
        int[] wrongs = {-1, 32, MIN, MAX};
        for (int number : wrongs) {
            due(11, "decide(" + number + ")", x.decide(number), -1);
        }
    }

    private static void matched() {
        SyscallFilter x = new SyscallFilter();
        putPlain(x, 0, 31, 31, 1);
        putPlain(x, 1, 0, 0, 1);
        putPlain(x, 2, 0, 16, 1);
        due(12, "matched(0)", x.matched(0), 1);
        due(12, "matched(1)", x.matched(1), 2);
        due(12, "matched(16)", x.matched(16), 2);
        due(12, "matched(17)", x.matched(17), -2);
        due(12, "matched(31)", x.matched(31), 0);
        x.condition(1, ARGUMENT_1 + SyscallFilter.GREATER, -1, 0);
        x.range(0, 31);
        x.put(0, 0);
        due(12, "matched(17), condition not met", x.matched(17), -2);
        due(12, "matched(0), condition not met", x.matched(0), 2);
        x.argument(1, 1);
        due(12, "matched(17), condition met", x.matched(17), 0);
        due(12, "matched(31), condition met", x.matched(31), 0);
        int[] wrongs = {-1, 32, MIN, MAX};
        for (int number : wrongs) {
            due(12, "matched(" + number + ")", x.matched(number), -1);
        }
        due(12, "matched(11), last of 12", withSingles(12).matched(11), 11);
    }

    private static void countWith() {
        SyscallFilter x = new SyscallFilter();
        x.fallback(3);
        putPlain(x, 0, 4, 9, 1);
        putPlain(x, 1, 8, 20, 2);
        due(13, "countWith(1, 0, 31)", x.countWith(1, 0, 31), 6);
        due(13, "countWith(2, 0, 31)", x.countWith(2, 0, 31), 11);
        due(13, "countWith(3, 0, 31)", x.countWith(3, 0, 31), 15);
        due(13, "countWith(0, 0, 31)", x.countWith(0, 0, 31), 0);
        due(13, "countWith(1, 9, 10)", x.countWith(1, 9, 10), 1);
        due(13, "countWith(1, 4, 4)", x.countWith(1, 4, 4), 1);
        due(13, "countWith(1, 3, 3)", x.countWith(1, 3, 3), 0);
        due(13, "countWith(3, 31, 31)", x.countWith(3, 31, 31), 1);
        due(13, "countWith(3, 0, 0)", x.countWith(3, 0, 0), 1);
        x.condition(0, SyscallFilter.LESS, -1, 0);
        x.range(0, 31);
        x.put(0, 0);
        x.argument(0, -1);
        due(13, "countWith(0, 0, 31), condition met", x.countWith(0, 0, 31), 32);
        due(13, "countWith(1, 0, 31), condition met", x.countWith(1, 0, 31), 0);
        due(13, "countWith(0, -1, 5)", x.countWith(0, -1, 5), -1);
        due(13, "countWith(0, 0, 32)", x.countWith(0, 0, 32), -1);
        due(13, "countWith(0, 32, 31)", x.countWith(0, 32, 31), -1);
        due(13, "countWith(0, 0, -1)", x.countWith(0, 0, -1), -1);
        due(13, "countWith(0, MIN, MAX)", x.countWith(0, MIN, MAX), -1);
        due(13, "countWith(4, 0, 32), range before action", x.countWith(4, 0, 32), -1);
        due(13, "countWith(0, 5, 4)", x.countWith(0, 5, 4), -2);
        due(13, "countWith(4, 5, 4), order before action", x.countWith(4, 5, 4), -2);
        due(13, "countWith(4, 0, 1)", x.countWith(4, 0, 1), -3);
        due(13, "countWith(-1, 0, 1)", x.countWith(-1, 0, 1), -3);
        due(13, "countWith(MIN, 0, 1)", x.countWith(MIN, 0, 1), -3);
    }

    private static void nextWith() {
        SyscallFilter x = new SyscallFilter();
        putPlain(x, 0, 5, 6, 1);
        putPlain(x, 1, 31, 31, 1);
        putPlain(x, 2, 4, 7, 2);
        due(14, "nextWith(1, 0)", x.nextWith(1, 0), 5);
        due(14, "nextWith(1, 5)", x.nextWith(1, 5), 5);
        due(14, "nextWith(1, 6)", x.nextWith(1, 6), 6);
        due(14, "nextWith(1, 7)", x.nextWith(1, 7), 31);
        due(14, "nextWith(1, 31)", x.nextWith(1, 31), 31);
        due(14, "nextWith(2, 5)", x.nextWith(2, 5), 7);
        due(14, "nextWith(2, 8)", x.nextWith(2, 8), -3);
        due(14, "nextWith(0, 0)", x.nextWith(0, 0), 0);
        due(14, "nextWith(0, 4)", x.nextWith(0, 4), 8);
        due(14, "nextWith(0, 31)", x.nextWith(0, 31), -3);
        due(14, "nextWith(3, 0)", x.nextWith(3, 0), -3);
        x.condition(0, ARGUMENT_1 + SyscallFilter.EQUAL, 1, 1);
        x.range(20, 22);
        x.put(0, 3);
        due(14, "nextWith(3, 0), condition not met", x.nextWith(3, 0), -3);
        x.argument(1, 3);
        due(14, "nextWith(3, 0), condition met", x.nextWith(3, 0), 20);
        int[] actions = {-1, 4, MIN, MAX};
        for (int action : actions) {
            due(14, "nextWith(" + action + ", 0)", x.nextWith(action, 0), -1);
            due(14, "nextWith(" + action + ", 32), action before from", x.nextWith(action, 32), -1);
        }
        int[] froms = {-1, 32, MIN, MAX};
        for (int from : froms) {
            due(14, "nextWith(0, " + from + ")", x.nextWith(0, from), -2);
        }
    }

    private static void matching() {
        SyscallFilter x = new SyscallFilter();
        for (int i = 0; i < 12; i++) {
            putPlain(x, 0, i, 31 - i, 1);
        }
        for (int number = 0; number < 32; number++) {
            int want = Math.min(12, Math.min(number, 31 - number) + 1);
            due(15, "matching(" + number + ")", x.matching(number), want);
        }
        x.remove(0);
        x.condition(1, SyscallFilter.GREATER_OR_EQUAL, -1, 50);
        x.range(0, 31);
        x.put(5, 1);
        due(15, "matching(0), condition not met", x.matching(0), 1);
        x.argument(0, 50);
        due(15, "matching(0), condition met", x.matching(0), 2);
        due(15, "matching(15), condition met", x.matching(15), 12);
        int[] wrongs = {-1, 32, MIN, MAX};
        for (int number : wrongs) {
            due(15, "matching(" + number + ")", x.matching(number), -1);
        }
    }

    private static void hidden() {
        // Several rules together may hide one, in any order, and beyond its range.
        SyscallFilter x = new SyscallFilter();
        putPlain(x, 0, 12, 31, 0);
        putPlain(x, 1, 0, 5, 1);
        putPlain(x, 2, 4, 11, 2);
        putPlain(x, 3, 3, 14, 3);
        due(16, "hidden(0), the first", x.hidden(0), 0);
        due(16, "hidden(1)", x.hidden(1), 0);
        due(16, "hidden(2), in part", x.hidden(2), 0);
        due(16, "hidden(3), by three", x.hidden(3), 1);
        putPlain(x, 4, 0, 31, 3);
        due(16, "hidden(4), all numbers", x.hidden(4), 1);
        // A rule that is hidden itself still counts, and so does one with the same action.
        due(16, "hidden(3)", x.hidden(3), 1);
        x.move(3, 0);
        due(16, "hidden(0) after move(3, 0)", x.hidden(0), 0);
        // A rule's own conditions play no part.
        x.condition(0, SyscallFilter.EQUAL, -1, 4);
        x.put(5, 1);
        due(16, "hidden(5), with a condition", x.hidden(5), 1);
        int[] positions = {-1, 6, 12, MIN, MAX};
        for (int pos : positions) {
            due(16, "hidden(" + pos + ")", x.hidden(pos), -1);
        }
    }

    private static void hiddenNot() {
        // One number short, at either end and in the middle.
        int[] gaps = {10, 15, 20};
        for (int gap : gaps) {
            SyscallFilter x = new SyscallFilter();
            putPlain(x, 0, 0, gap - 1, 0);
            putPlain(x, 1, gap + 1, 31, 0);
            putPlain(x, 2, 10, 20, 0);
            due(16, "hidden(2) with a gap at " + gap, x.hidden(2), 0);
            putPlain(x, 3, gap, gap, 0);
            due(16, "hidden(2), the rest at a greater position", x.hidden(2), 0);
            x.move(3, 0);
            due(16, "hidden(3), the rest at a lesser position", x.hidden(3), 1);
        }
        // A condition in either slot keeps a rule from hiding, even one that is always met.
        for (int slot = 0; slot < 2; slot++) {
            SyscallFilter y = new SyscallFilter();
            y.condition(slot, SyscallFilter.EQUAL, 0, 0);
            y.put(0, 1);
            y.put(1, 1);
            due(16, "hidden(1) behind a condition in slot " + slot, y.hidden(1), 0);
            due(16, "matched(0)", y.matched(0), 0);
        }
        // A rule does not hide itself.
        SyscallFilter z = new SyscallFilter();
        z.put(0, 0);
        due(16, "hidden(0), alone", z.hidden(0), 0);
        due(16, "hidden(1), no such rule", z.hidden(1), -1);
    }

    private static void stretches() {
        SyscallFilter x = new SyscallFilter();
        putPlain(x, 0, 0, 31, 1);
        due(17, "stretches(), one rule for all", x.stretches(), 1);
        putPlain(x, 0, 0, 0, 1);
        due(17, "stretches(), 0 .. 0", x.stretches(), 2);
        putPlain(x, 0, 31, 31, 1);
        due(17, "stretches(), 31 .. 31", x.stretches(), 3);
        putPlain(x, 1, 10, 19, 1);
        due(17, "stretches(), 10 .. 19", x.stretches(), 5);
        putPlain(x, 4, 10, 19, 2);
        due(17, "stretches(), 10 .. 19 twice", x.stretches(), 5);
        // 19 and 20 are in as many rules, but not in the same ones.
        SyscallFilter y = new SyscallFilter();
        putPlain(y, 0, 10, 19, 1);
        putPlain(y, 1, 20, 29, 1);
        due(17, "stretches(), ranges that meet", y.stretches(), 4);
        // Conditions and arguments play no part.
        y.condition(0, SyscallFilter.EQUAL, -1, 1);
        y.range(12, 14);
        y.put(2, 1);
        due(17, "stretches(), condition not met", y.stretches(), 6);
        y.argument(0, 1);
        due(17, "stretches(), condition met", y.stretches(), 6);
        // 12 rules set at most 24 borders.
        SyscallFilter z = new SyscallFilter();
        for (int i = 0; i < 12; i++) {
            putPlain(z, 0, 2 * i + 1, 2 * i + 1, 1);
        }
        due(17, "stretches(), every second number", z.stretches(), 25);
        // Numbers without a rule on both sides of a rule are two stretches.
        SyscallFilter w = new SyscallFilter();
        putPlain(w, 0, 15, 15, 0);
        due(17, "stretches(), 15 .. 15", w.stretches(), 3);
    }

    private static void open() {
        SyscallFilter x = new SyscallFilter();
        due(18, "open() without rules", x.open(), 32);
        putPlain(x, 0, 0, 0, 0);
        due(18, "open(), 0 .. 0", x.open(), 31);
        putPlain(x, 0, 31, 31, 1);
        due(18, "open(), 31 .. 31", x.open(), 30);
        putPlain(x, 1, 10, 14, 1);
        putPlain(x, 3, 12, 19, 1);
        due(18, "open(), ranges that overlap", x.open(), 20);
        // A rule counts by its range alone, whether or not its conditions can be met.
        x.condition(0, SyscallFilter.LESS, -1, MIN);
        x.range(20, 21);
        x.put(0, 1);
        due(18, "open(), a condition never met", x.open(), 18);
        x.fallback(1);
        x.argument(0, 3);
        due(18, "open(), another default and argument", x.open(), 18);
        x.range(0, 31);
        x.put(5, 1);
        due(18, "open(), one rule for all", x.open(), 0);
    }

    private static List<Integer> answers(SyscallFilter x) {
        List<Integer> found = new ArrayList<>();
        found.add(x.rules());
        found.add(x.stretches());
        found.add(x.open());
        for (int pos = -1; pos <= 12; pos++) {
            found.add(x.hidden(pos));
        }
        for (int number = -1; number <= 32; number += 3) {
            found.add(x.decide(number));
            found.add(x.matched(number));
            found.add(x.matching(number));
        }
        for (int action = -1; action <= 3; action++) {
            found.add(x.countWith(action, 3, 29));
            found.add(x.nextWith(action, 11));
        }
        return found;
    }

    private static void questionsChangeNothing() {
        SyscallFilter x = withSingles(5);
        x.condition(0, SyscallFilter.EQUAL, 1, 1);
        x.range(8, 21);
        x.put(2, 3);
        x.argument(0, 1);
        List<Integer> before = answers(x);
        for (int round = 0; round < 3; round++) {
            List<Integer> again = answers(x);
            for (int i = 0; i < before.size(); i++) {
                due(0, "question " + i + " asked again", again.get(i), before.get(i));
            }
        }
        due(0, "put(6, 2) after questions", x.put(6, 2), 7);
        due(0, "matching(21) after questions", x.matching(21), 2);
        due(0, "matching(22) after questions", x.matching(22), 0);
    }

    private static void draftStays() {
        SyscallFilter x = new SyscallFilter();
        x.range(3, 4);
        x.condition(0, SyscallFilter.EQUAL, -1, 6);
        x.condition(1, ARGUMENT_1 + SyscallFilter.EQUAL, -1, 7);
        x.put(0, 1);
        x.put(1, 2);
        x.remove(0);
        x.put(0, 3);
        x.move(1, 0);
        x.argument(0, 6);
        x.argument(1, 7);
        due(0, "matching(3), two copies of the draft", x.matching(3), 2);
        due(0, "matching(5), two copies of the draft", x.matching(5), 0);
        due(0, "decide(4)", x.decide(4), 2);
        // A later change of the draft leaves the copies as they are.
        x.range(0, 31);
        x.condition(0, SyscallFilter.EQUAL, -1, 0);
        x.condition(1, SyscallFilter.EMPTY, 0, 0);
        due(0, "matching(3) after a new draft", x.matching(3), 2);
        due(0, "matching(5) after a new draft", x.matching(5), 0);
        due(0, "stretches() after a new draft", x.stretches(), 3);
        x.argument(1, 8);
        due(0, "matching(3), the old condition not met", x.matching(3), 0);
    }

    private static void objectsAreApart() {
        SyscallFilter x = withSingles(3);
        SyscallFilter y = new SyscallFilter();
        x.fallback(2);
        due(1, "rules() of a second object", y.rules(), 0);
        due(1, "decide(9) of a second object", y.decide(9), 0);
        y.put(0, 1);
        due(1, "decide(9) of the first object", x.decide(9), 2);
        due(1, "rules() of the first object", x.rules(), 3);
    }
}
