import java.util.ArrayList;
import java.util.List;
import java.util.function.Consumer;
import java.util.function.ToIntFunction;

/** For each sentence of the document that names a boundary case, a test that bears the sentence as its name. */
public final class BoundaryTest {
    private static final int MIN = Integer.MIN_VALUE;
    private static final int MAX = Integer.MAX_VALUE;
    private static final int MOST_CALLS = 512;
    private static final int[] NOT_A_NUMBER = {-1, 32, 33, -32, MIN, MAX};
    private static final int[] NOT_AN_ACTION = {-1, 4, 5, -4, MIN, MAX};
    private static final int[] NOT_0_OR_1 = {-1, 2, 3, MIN, MAX};

    private static int sentences = 0;
    private static int checks = 0;
    private static int wrong = 0;

    public static void main(String[] args) {
        terms();
        everyMethod();
        newObject();
        range();
        condition();
        put();
        remove();
        move();
        change();
        fallback();
        rules();
        argument();
        decide();
        matched();
        countWith();
        nextWith();
        matching();
        hidden();
        stretches();
        open();
        if (wrong != 0) {
            System.out.println(wrong + " of " + sentences + " sentences do not hold");
            System.exit(1);
        }
        System.out.println(sentences + " sentences hold, by " + checks + " answers");
    }

    private static void test(String words, Runnable body) {
        sentences++;
        int before = checks;
        try {
            body.run();
            if (checks == before) {
                throw new Fault("nothing was tested");
            }
        } catch (RuntimeException thrown) {
            wrong++;
            System.out.println("[" + words + "] " + thrown);
        }
    }

    /** Ends the test of a sentence: what comes after a wrong answer may be wrong only because of it. */
    private static final class Fault extends RuntimeException {
        private static final long serialVersionUID = 1;

        Fault(String text) {
            super(text);
        }

        @Override
        public String toString() {
            return getMessage();
        }
    }

    private static int call(SyscallFilter x, String name, int... p) {
        return switch (name) {
            case "range" -> x.range(p[0], p[1]);
            case "condition" -> x.condition(p[0], p[1], p[2], p[3]);
            case "put" -> x.put(p[0], p[1]);
            case "remove" -> x.remove(p[0]);
            case "move" -> x.move(p[0], p[1]);
            case "change" -> x.change(p[0], p[1]);
            case "fallback" -> x.fallback(p[0]);
            case "rules" -> x.rules();
            case "argument" -> x.argument(p[0], p[1]);
            case "decide" -> x.decide(p[0]);
            case "matched" -> x.matched(p[0]);
            case "countWith" -> x.countWith(p[0], p[1], p[2]);
            case "nextWith" -> x.nextWith(p[0], p[1]);
            case "matching" -> x.matching(p[0]);
            case "hidden" -> x.hidden(p[0]);
            case "stretches" -> x.stretches();
            case "open" -> x.open();
            default -> throw new IllegalArgumentException("no method " + name);
        };
    }

    private record Row(String name, int[] parameters, int answer) {
        String text() {
            StringBuilder made = new StringBuilder(name);
            for (int each : parameters) {
                made.append(' ').append(each);
            }
            return made.append(" -> ").append(answer).toString();
        }
    }

    /** Calls on one new object, kept so that a fault can be told with what led to it. */
    private static final class Run {
        private static final int SHOWN = 8;
        private final SyscallFilter x = new SyscallFilter();
        private final List<Row> rows = new ArrayList<>();

        int ask(String name, int... p) {
            if (rows.size() == MOST_CALLS) {
                throw new IllegalStateException("a test makes more calls than the document allows");
            }
            int answer = call(x, name, p);
            rows.add(new Row(name, p, answer));
            return answer;
        }

        String lastRows() {
            StringBuilder made = new StringBuilder(rows.size() > SHOWN ? ".." : "");
            for (Row row : rows.subList(Math.max(0, rows.size() - SHOWN), rows.size())) {
                made.append(' ').append(row.text()).append(';');
            }
            return made.toString();
        }

        Run due(int want, String name, int... p) {
            checks++;
            if (ask(name, p) != want) {
                throw new Fault("call " + rows.size() + ", due is " + want + ": " + lastRows());
            }
            return this;
        }

        /** A call that prepares the object, and so must not be refused. */
        Run go(String name, int... p) {
            checks++;
            if (ask(name, p) < 0) {
                throw new Fault("call " + rows.size() + " is refused: " + lastRows());
            }
            return this;
        }

        Run plain(int pos, int first, int last, int action) {
            return go("condition", 0, 0, 0, 0).go("condition", 1, 0, 0, 0)
                    .go("range", first, last).go("put", pos, action);
        }

        /** The rules made by singles(n), told by their numbers, stand in this order. */
        Run dueOrder(int... numbers) {
            due(numbers.length, "rules");
            for (int pos = 0; pos < numbers.length; pos++) {
                due(pos, "matched", numbers[pos]);
                due(numbers[pos] % 4, "decide", numbers[pos]);
            }
            return due(32 - numbers.length, "open");
        }
    }

    /** n rules, each of which has just the number of its position. */
    private static Run singles(int n) {
        Run run = new Run();
        for (int i = 0; i < n; i++) {
            run.go("range", i, i).go("put", i, i % 4);
        }
        return run;
    }

    private static void terms() {
        test("A CALL has a number 0 .. 31", () -> {
            for (int number : new int[] {0, 31}) {
                new Run().go("range", number, number).go("put", 0, 1)
                        .due(1, "decide", number).due(0, "matched", number).due(1, "matching", number)
                        .due(1, "countWith", 1, number, number).due(number, "nextWith", 1, number);
            }
        });
        test("two arguments, 0 and 1, which are ints", () -> {
            for (int i = 0; i < 2; i++) {
                for (int value : new int[] {MIN, MIN + 1, -1, 0, 1, MAX - 1, MAX}) {
                    new Run().go("condition", 0, 8 * i + SyscallFilter.EQUAL, -1, value).go("put", 0, 1)
                            .go("argument", i, value).go("argument", 1 - i, value ^ 1).due(1, "decide", 0)
                            .go("argument", i, value ^ 1).go("argument", 1 - i, value).due(0, "decide", 0);
                }
            }
        });
        test("both are 0 at first", () -> {
            for (int i = 0; i < 2; i++) {
                new Run().go("condition", i, 8 * i + SyscallFilter.EQUAL, -1, 0).go("put", 0, 1).due(1, "decide", 0);
            }
        });
        test("either empty (always met)", () -> {
            Run asAtFirst = new Run().go("put", 0, 1);
            Run emptied = new Run().go("condition", 0, SyscallFilter.EQUAL, 3, 9).go("condition", 0, 0, -1, 5)
                    .go("condition", 1, 8 + SyscallFilter.LESS, 3, -9).go("condition", 1, 8, -1, MIN).go("put", 0, 1);
            for (int a : new int[] {MIN, -1, 0, 1, MAX}) {
                for (int b : new int[] {MIN, -1, 0, 1, MAX}) {
                    asAtFirst.go("argument", 0, a).go("argument", 1, b).due(1, "decide", 0).due(1, "matching", 31);
                    emptied.go("argument", 0, a).go("argument", 1, b).due(1, "decide", 0).due(1, "matching", 31);
                }
            }
        });
        test("a mask (any int)", () -> {
            // Bit 31 is a bit of the mask like any other, and mask 0 leaves 0 of every argument.
            new Run().go("condition", 0, SyscallFilter.EQUAL, MIN, MIN).go("put", 0, 1)
                    .due(0, "decide", 0).go("argument", 0, -1).due(1, "decide", 0)
                    .go("argument", 0, MAX).due(0, "decide", 0).go("argument", 0, MIN).due(1, "decide", 0);
            new Run().go("condition", 0, SyscallFilter.EQUAL, MAX, MAX).go("put", 0, 1)
                    .due(0, "decide", 0).go("argument", 0, -1).due(1, "decide", 0)
                    .go("argument", 0, MAX).due(1, "decide", 0).go("argument", 0, MIN).due(0, "decide", 0);
            new Run().go("condition", 0, SyscallFilter.EQUAL, 0, 0).go("put", 0, 1)
                    .due(1, "decide", 0).go("argument", 0, -1).due(1, "decide", 0)
                    .go("argument", 0, MIN).due(1, "decide", 0);
        });
        test("a value (any int)", () -> {
            // The mask is for the argument alone: a value with other bits is never equal.
            new Run().go("condition", 0, SyscallFilter.EQUAL, 1, 3).go("put", 0, 1)
                    .go("argument", 0, 3).due(0, "decide", 0).go("argument", 0, 1).due(0, "decide", 0);
            new Run().go("condition", 0, SyscallFilter.DIFFERENT, 0, MIN).go("put", 0, 1)
                    .due(1, "decide", 0).go("argument", 0, MIN).due(1, "decide", 0);
        });
        test("compares so with the value, as signed ints", BoundaryTest::signedComparisons);
        test("a range of call numbers first .. last", () ->
            new Run().go("range", 5, 9).go("put", 0, 1)
                    .due(0, "decide", 4).due(1, "decide", 5).due(1, "decide", 9).due(0, "decide", 10));
        test("an action 0 .. 3", () -> {
            for (int action = 0; action < 4; action++) {
                new Run().go("fallback", 3 - action).due(1, "put", 0, action).due(action, "decide", 0)
                        .due(32, "countWith", action, 0, 31).due(0, "nextWith", action, 0)
                        .due(action, "remove", 0).due(3 - action, "decide", 0);
            }
        });
        test("both conditions are met by the arguments at hand", () -> {
            Run run = new Run().go("condition", 0, SyscallFilter.EQUAL, -1, 1)
                    .go("condition", 1, 8 + SyscallFilter.EQUAL, -1, 1).go("put", 0, 1);
            run.due(0, "decide", 0);
            run.go("argument", 0, 1).due(0, "decide", 0);
            run.go("argument", 1, 1).due(1, "decide", 0);
            run.go("argument", 0, 0).due(0, "decide", 0);
        });
        test("at the positions 0 .. rules()-1, at most 12", () -> {
            for (int n : new int[] {0, 1, 11, 12}) {
                Run run = singles(n).due(n, "rules").due(-1, "hidden", n).due(-1, "change", n, 0);
                if (n > 0) {
                    run.due(0, "hidden", n - 1).due((n - 1) % 4, "change", n - 1, 0).due(n - 1, "matched", n - 1);
                }
            }
            singles(12).due(-3, "put", 12, 0).due(12, "rules");
        });
        test("the action of the matching rule with the least position", () -> {
            Run run = new Run();
            for (int i = 0; i < 12; i++) {
                run.go("put", 0, i % 4).due(i % 4, "decide", 0).due(0, "matched", 31);
            }
            for (int i = 10; i >= 0; i--) {
                run.due((i + 1) % 4, "remove", 0).due(i % 4, "decide", 0);
            }
        });
        test("or the default action (0 at first) if no rule matches", () ->
            new Run().due(0, "decide", 0).due(0, "decide", 31)
                    .go("range", 1, 30).go("put", 0, 2).due(0, "decide", 0).due(2, "decide", 1).due(0, "decide", 31)
                    .go("fallback", 3).due(3, "decide", 0).due(2, "decide", 1).due(3, "decide", 31));
        test("at first its range is 0 .. 31 and both its conditions are empty", () ->
            new Run().go("put", 0, 1).due(32, "countWith", 1, 0, 31).due(0, "open").due(1, "stretches")
                    .go("argument", 0, MIN).go("argument", 1, MAX).due(32, "countWith", 1, 0, 31)
                    .go("put", 1, 2).due(1, "hidden", 1));
        test("Putting a rule in makes a copy of the draft", () ->
            new Run().go("range", 3, 4).go("condition", 0, SyscallFilter.EQUAL, -1, 0).go("put", 0, 1)
                    .go("range", 0, 31).go("condition", 0, SyscallFilter.DIFFERENT, 0, 0)
                    .due(2, "countWith", 1, 0, 31).due(3, "nextWith", 1, 0));
        test("the draft stays as it is", BoundaryTest::draftStays);
    }

    private static void signedComparisons() {
        int[] left = {MIN, MIN, -1, -1, MAX, MAX, 0, 0, 0, -2, MIN + 1, MAX - 1};
        int[] right = {MAX, MIN, 0, MAX, MIN, MAX, MIN, MAX, 0, MAX, MAX, MIN};
        for (int i = 0; i < left.length; i++) {
            boolean less = (long) left[i] < (long) right[i];
            boolean equal = left[i] == right[i];
            comparison(SyscallFilter.EQUAL, left[i], right[i], equal);
            comparison(SyscallFilter.DIFFERENT, left[i], right[i], !equal);
            comparison(SyscallFilter.LESS, left[i], right[i], less);
            comparison(SyscallFilter.LESS_OR_EQUAL, left[i], right[i], less || equal);
            comparison(SyscallFilter.GREATER, left[i], right[i], !less && !equal);
            comparison(SyscallFilter.GREATER_OR_EQUAL, left[i], right[i], !less);
        }
    }

    private static void comparison(int comparison, int left, int right, boolean met) {
        for (int i = 0; i < 2; i++) {
            for (int slot = 0; slot < 2; slot++) {
                new Run().go("condition", slot, 8 * i + comparison, -1, right).go("put", 0, 1)
                        .go("argument", i, left).due(met ? 1 : 0, "decide", 0);
            }
        }
    }

    private static void draftStays() {
        // After each call that works on the list, not only after put, and whether or not
        // the rule it works on is like the draft.
        List<Consumer<Run>> works = List.of(
                run -> run.go("put", 0, 3),
                run -> run.go("put", 2, 3),
                run -> run.go("remove", 0),
                run -> run.go("remove", 1),
                run -> run.go("move", 0, 1),
                run -> run.go("move", 1, 0),
                run -> run.go("move", 0, 0),
                run -> run.go("change", 0, 2),
                run -> run.go("change", 1, 2));
        for (Consumer<Run> work : works) {
            Run run = new Run().plain(0, 20, 21, 2).go("range", 6, 7).go("condition", 0, SyscallFilter.EQUAL, 3, 1)
                    .go("condition", 1, 8 + SyscallFilter.LESS, -1, -5).go("put", 1, 1).go("fallback", 3);
            work.accept(run);
            run.go("put", 0, 0);
            run.go("argument", 0, 5).go("argument", 1, -6).due(6, "nextWith", 0, 0).due(2, "countWith", 0, 0, 31);
            run.go("argument", 0, 4).due(-3, "nextWith", 0, 0);
            run.go("argument", 0, 5).go("argument", 1, -5).due(-3, "nextWith", 0, 0);
        }
    }

    private static void everyMethod() {
        test("An object is used for at most 512 calls after it has been made", BoundaryTest::lastOfAllCalls);
        test("No question changes anything", () -> {
            for (int n : new int[] {0, 5, 12}) {
                leaveAsItWas(n, questions(n), false);
            }
        });
        test("A refused call changes nothing", () -> {
            for (int n : new int[] {0, 5, 12}) {
                leaveAsItWas(n, refusedCalls(n), true);
            }
        });
        test("In every method the tests are made in the order named", BoundaryTest::orderOfTests);
    }

    private static void lastOfAllCalls() {
        Object[][] last = {
            {0, "range", 0, 31}, {-2, "range", 31, 0}, {0, "condition", 1, 14, -1, -1}, {-2, "condition", 1, 15, 0, 0},
            {12, "put", 11, 1}, {-1, "put", 12, 1}, {3, "remove", 7}, {-1, "remove", 11}, {0, "move", 0, 10},
            {2, "change", 10, 1}, {2, "fallback", 1}, {11, "rules"}, {0, "argument", 1, MAX}, {2, "decide", 10},
            {2, "decide", 11}, {10, "matched", 10}, {-2, "matched", 11}, {24, "countWith", 2, 0, 31},
            {10, "nextWith", 2, 7}, {1, "matching", 10}, {0, "hidden", 10}, {-1, "hidden", 11},
            {12, "stretches"}, {21, "open"},
        };
        for (Object[] row : last) {
            Run run = singles(11).go("fallback", 2);
            // Puts and removes in turn, so that the calls before the last are no mere questions.
            while (run.rows.size() + 3 <= MOST_CALLS) {
                int round = run.rows.size() % 11;
                run.due(12, "put", round, 3).due(3, "remove", round);
            }
            while (run.rows.size() < MOST_CALLS - 1) {
                run.due(-1, "remove", 11);
            }
            run.due((int) row[0], (String) row[1], parameters(row, 2));
        }
    }

    private static int[] parameters(Object[] row, int from) {
        int[] p = new int[row.length - from];
        for (int i = 0; i < p.length; i++) {
            p[i] = (int) row[from + i];
        }
        return p;
    }

    private static List<Object[]> questions(int n) {
        List<Object[]> found = new ArrayList<>();
        found.add(new Object[] {"rules"});
        found.add(new Object[] {"stretches"});
        found.add(new Object[] {"open"});
        for (int number : new int[] {-1, 0, 5, 9, 31, 32, MIN, MAX}) {
            found.add(new Object[] {"decide", number});
            found.add(new Object[] {"matched", number});
            found.add(new Object[] {"matching", number});
        }
        for (int action : new int[] {-1, 0, 1, 2, 3, 4, MIN, MAX}) {
            found.add(new Object[] {"countWith", action, 0, 31});
            found.add(new Object[] {"countWith", action, 7, 6});
            found.add(new Object[] {"countWith", action, -1, 32});
            found.add(new Object[] {"nextWith", action, 0});
            found.add(new Object[] {"nextWith", action, 31});
            found.add(new Object[] {"nextWith", action, 32});
        }
        for (int pos : new int[] {-1, 0, n / 2, n - 1, n, MIN, MAX}) {
            found.add(new Object[] {"hidden", pos});
        }
        return found;
    }

    private static List<Object[]> refusedCalls(int n) {
        List<Object[]> found = new ArrayList<>();
        for (int number : NOT_A_NUMBER) {
            found.add(new Object[] {"range", number, 30});
            found.add(new Object[] {"range", 2, number});
        }
        found.add(new Object[] {"range", 3, 2});
        found.add(new Object[] {"range", 31, 0});
        for (int slot : NOT_0_OR_1) {
            found.add(new Object[] {"condition", slot, 0, 0, 0});
            found.add(new Object[] {"argument", slot, 77});
        }
        for (int what : new int[] {-1, 7, 15, 16, MIN, MAX}) {
            found.add(new Object[] {"condition", 0, what, 0, 0});
            found.add(new Object[] {"condition", 1, what, 0, 0});
        }
        for (int action : NOT_AN_ACTION) {
            found.add(new Object[] {"put", 0, action});
            found.add(new Object[] {"put", n, action});
            found.add(new Object[] {"change", 0, action});
            found.add(new Object[] {"fallback", action});
        }
        for (int pos : new int[] {-1, n, n + 1, 12, 13, 14, MIN, MAX}) {
            if (pos != n) {
                found.add(new Object[] {"put", pos, 1});
            }
            if (pos < 0 || pos >= n) {
                found.add(new Object[] {"remove", pos});
                found.add(new Object[] {"move", pos, 0});
                found.add(new Object[] {"move", 0, pos});
                found.add(new Object[] {"move", n - 1, pos});
                found.add(new Object[] {"change", pos, 1});
            }
        }
        if (n == 12) {
            for (int pos = 0; pos <= 12; pos++) {
                found.add(new Object[] {"put", pos, 1});
            }
        }
        return found;
    }

    /** An object that got one of the calls and one that did not must answer the same to every glance. */
    private static void leaveAsItWas(int n, List<Object[]> calls, boolean refused) {
        for (ToIntFunction<Run> glance : glances(n)) {
            Run twin = prepared(n);
            int want = glance.applyAsInt(twin);
            for (Object[] each : calls) {
                Run run = prepared(n);
                int answer = run.ask((String) each[0], parameters(each, 1));
                String text = run.rows.get(run.rows.size() - 1).text();
                checks++;
                if (refused && answer >= 0) {
                    throw new Fault("not refused with " + n + " rules: " + text);
                }
                if (glance.applyAsInt(run) != want) {
                    throw new Fault("with " + n + " rules, after " + text + ": " + run.lastRows()
                            + " without it: " + twin.lastRows());
                }
            }
        }
    }

    /** n rules with conditions of every kind; a draft, default action and arguments unlike those at first. */
    private static Run prepared(int n) {
        Run run = new Run();
        for (int i = 0; i < n; i++) {
            run.go("condition", 0, i % 3 == 0 ? 0 : 8 * (i % 2) + i % 7, 7, i % 5)
                    .go("condition", 1, i % 4 == 0 ? 0 : 8 * (i / 2 % 2) + (i + 3) % 7, -1, i - 3)
                    .go("range", i, 31 - 2 * (i % 5)).go("put", i / 2, (i + 1) % 4);
        }
        return run.go("range", 4, 9).go("condition", 0, SyscallFilter.GREATER, 6, 3)
                .go("condition", 1, 8 + SyscallFilter.LESS_OR_EQUAL, -1, 2)
                .go("fallback", 2).go("argument", 0, 5).go("argument", 1, 1);
    }

    /**
     * Ways to look at the list, the arguments at hand, the default action and the draft. Each asks
     * one question and asks it last: a question that changes something may not hide its own trace.
     */
    private static List<ToIntFunction<Run>> glances(int n) {
        List<ToIntFunction<Run>> found = new ArrayList<>();
        found.add(run -> run.ask("rules"));
        found.add(run -> run.ask("stretches"));
        found.add(run -> run.ask("open"));
        found.add(run -> run.ask("fallback", 0));
        for (int pos = 0; pos < n; pos++) {
            int at = pos;
            found.add(run -> run.ask("hidden", at));
            found.add(run -> run.ask("remove", at));
        }
        for (int each = 0; each < 32; each += 3) {
            int number = each;
            found.add(run -> run.ask("decide", number));
            found.add(run -> run.ask("matched", number));
            found.add(run -> run.ask("matching", number));
        }
        for (int each = 0; each < 12; each++) {
            int a = each / 3 * 2;
            int b = each % 3 * 4 - 3;
            for (int number = 0; number < 32; number += 8) {
                int other = number;
                found.add(run -> withArguments(run, a, b).ask("matching", other));
            }
            found.add(run -> withArguments(onlyDraft(run, n), a, b).ask("nextWith", 1, 0));
            found.add(run -> withArguments(onlyDraft(run, n), a, b).ask("countWith", 1, 0, 31));
        }
        // Each side of both conditions of the draft.
        for (int each = 0; each < 4; each++) {
            int a = 3 + each / 2;
            int b = 2 + each % 2;
            found.add(run -> withArguments(onlyDraft(run, n), a, b).ask("decide", 4));
        }
        found.add(run -> onlyDraft(run, n).ask("decide", 4));
        // The very arguments that prepared() has set.
        found.add(run -> onlyDraft(run.go("range", 0, 31).go("condition", 0, SyscallFilter.EQUAL, -1, 5)
                .go("condition", 1, 8 + SyscallFilter.EQUAL, -1, 1), n).ask("decide", 4));
        return found;
    }

    private static Run withArguments(Run run, int a, int b) {
        return run.go("argument", 0, a).go("argument", 1, b);
    }

    private static Run onlyDraft(Run run, int n) {
        for (int i = 0; i < n; i++) {
            run.go("remove", 0);
        }
        return run.go("put", 0, 1);
    }

    private static void orderOfTests() {
        new Run().due(-1, "range", 32, 0).due(-1, "range", 32, 31).due(-1, "range", 0, -1).due(-1, "range", 5, MIN)
                .due(-1, "range", MAX, MIN).due(-1, "range", 33, 32).due(-2, "range", 1, 0);
        for (int slot : NOT_0_OR_1) {
            new Run().due(-1, "condition", slot, 7, 0, 0).due(-1, "condition", slot, 16, 0, 0)
                    .due(-1, "condition", slot, -1, 0, 0);
        }
        singles(12).due(-1, "put", 13, 4).due(-1, "put", -1, -1).due(-1, "put", 13, 0).due(-1, "put", -1, 0)
                .due(-2, "put", 0, 4).due(-2, "put", 12, -1).due(-3, "put", 0, 0).due(-3, "put", 12, 3);
        new Run().due(-1, "put", 1, 4).due(-1, "put", -1, 4).due(-2, "put", 0, 4);
        new Run().due(-1, "move", 0, 0).due(-1, "move", 0, 1).due(-1, "move", -1, -1);
        singles(3).due(-1, "move", 3, 3).due(-1, "move", -1, -1).due(-1, "move", 3, -1).due(-2, "move", 2, 3);
        new Run().due(-1, "change", 0, 4).due(-1, "change", -1, -1);
        singles(3).due(-1, "change", 3, 4).due(-1, "change", -1, -1).due(-2, "change", 2, 4);
        new Run().due(-1, "matched", 32).due(-1, "matched", -1).due(-2, "matched", 31);
        new Run().due(-1, "countWith", 4, 32, 0).due(-1, "countWith", -1, 0, -1).due(-1, "countWith", 0, 32, 31)
                .due(-1, "countWith", 4, 0, 32).due(-2, "countWith", 4, 1, 0).due(-2, "countWith", -1, 31, 30)
                .due(-3, "countWith", 4, 0, 0);
        new Run().due(-1, "nextWith", 4, 32).due(-1, "nextWith", -1, -1).due(-2, "nextWith", 1, 32)
                .due(-2, "nextWith", 1, -1).due(-3, "nextWith", 1, 0);
    }

    private static void newObject() {
        test("Promise 1: No rules at first", () ->
            new Run().due(0, "rules").due(-1, "remove", 0).due(-1, "change", 0, 0).due(-1, "move", 0, 0)
                    .due(-1, "hidden", 0).due(32, "open").due(1, "stretches").due(-2, "matched", 0)
                    .due(0, "matching", 0).due(-2, "matched", 31).due(0, "matching", 31));
    }

    private static void range() {
        test("Promise 2: -1 if first or last is not in 0 .. 31", () -> {
            for (int number : NOT_A_NUMBER) {
                new Run().due(-1, "range", number, 31).due(-1, "range", 0, number).due(-1, "range", number, number)
                        .due(-1, "range", number, 0).due(-1, "range", 31, number);
            }
        });
        test("Promise 2: -2 if first > last", () -> {
            Run run = new Run().due(-2, "range", 31, 0);
            for (int number = 1; number < 32; number++) {
                run.due(-2, "range", number, number - 1);
            }
        });
        test("Promise 2: otherwise 0", () -> {
            for (int number = 0; number < 32; number++) {
                new Run().due(0, "range", number, number).go("put", 0, 1)
                        .due(1, "countWith", 1, 0, 31).due(number, "nextWith", 1, 0);
            }
            new Run().due(0, "range", 0, 31).go("put", 0, 1).due(32, "countWith", 1, 0, 31);
            new Run().due(0, "range", 0, 1).go("put", 0, 1).due(2, "countWith", 1, 0, 31).due(-3, "nextWith", 1, 2);
            new Run().due(0, "range", 30, 31).go("put", 0, 1).due(2, "countWith", 1, 0, 31).due(30, "nextWith", 1, 0);
        });
    }

    private static void condition() {
        test("Promise 3: comparison 0 makes the condition empty", () -> {
            for (int what : new int[] {0, 8}) {
                for (int slot = 0; slot < 2; slot++) {
                    new Run().go("condition", slot, SyscallFilter.DIFFERENT, 0, 0).go("put", 0, 1)
                            .due(0, "matching", 0).due(0, "condition", slot, what, 0, 0).go("put", 0, 1)
                            .due(1, "matching", 0).go("argument", what / 8, -1).due(1, "matching", 0)
                            .due(1, "hidden", 1);
                }
            }
        });
        test("Promise 3: mask and value then play no part", () -> {
            for (int what : new int[] {0, 8}) {
                for (int mask : new int[] {MIN, -1, 0, 1, MAX}) {
                    for (int value : new int[] {MIN, -1, 0, 1, MAX}) {
                        new Run().due(0, "condition", 0, what, mask, value).due(0, "condition", 1, what, mask, value)
                                .go("put", 0, 1).go("put", 1, 2).due(1, "decide", 0).due(1, "hidden", 1)
                                .go("argument", 0, 6).go("argument", 1, -6).due(1, "decide", 0);
                    }
                }
            }
        });
        test("Promise 3: -1 if slot is not 0 or 1", () -> {
            for (int slot : NOT_0_OR_1) {
                new Run().due(-1, "condition", slot, 0, 0, 0).due(-1, "condition", slot, 14, -1, 5);
            }
        });
        test("Promise 3: -2 if what is not in 0 .. 15", () -> {
            for (int what : new int[] {-1, -2, -7, -8, -9, -16, 16, 17, 24, MIN, MIN + 1, MAX - 1, MAX}) {
                new Run().due(-2, "condition", 0, what, 0, 0).due(-2, "condition", 1, what, 0, 0);
            }
        });
        test("Promise 3: or its comparison is 7", () ->
            new Run().due(-2, "condition", 0, 7, 0, 0).due(-2, "condition", 1, 7, 0, 0)
                    .due(-2, "condition", 0, 15, 0, 0).due(-2, "condition", 1, 15, 0, 0));
        test("Promise 3: otherwise 0", () -> {
            for (int slot = 0; slot < 2; slot++) {
                for (int what : new int[] {0, 1, 2, 3, 4, 5, 6, 8, 9, 10, 11, 12, 13, 14}) {
                    new Run().due(0, "condition", slot, what, -1, 0).due(0, "condition", slot, what, MIN, MAX);
                }
            }
        });
    }

    private static void put() {
        test("Promise 4: later rules move up by one", () -> {
            new Run().go("range", 1, 1).go("put", 0, 1).go("range", 2, 2).go("put", 1, 2)
                    .go("range", 0, 0).go("put", 0, 0).dueOrder(0, 1, 2);
            new Run().go("range", 0, 0).go("put", 0, 0).go("range", 2, 2).go("put", 1, 2)
                    .go("range", 1, 1).go("put", 1, 1).dueOrder(0, 1, 2);
            new Run().go("range", 0, 0).go("put", 0, 0).go("range", 1, 1).go("put", 1, 1)
                    .go("range", 2, 2).go("put", 2, 2).dueOrder(0, 1, 2);
            // The last rule of a list that becomes full.
            singles(11).go("range", 11, 11).go("put", 0, 3).dueOrder(11, 0, 1, 2, 3, 4, 5, 6, 7, 8, 9, 10);
            singles(11).go("range", 11, 11).go("put", 10, 3).dueOrder(0, 1, 2, 3, 4, 5, 6, 7, 8, 9, 11, 10);
        });
        test("Promise 4: -1 if pos is not in 0 .. rules()", () -> {
            for (int n : new int[] {0, 1, 11, 12}) {
                for (int pos : new int[] {-1, -2, n + 1, n + 2, MIN, MAX}) {
                    singles(n).due(-1, "put", pos, 0).due(n, "rules");
                }
            }
        });
        test("Promise 4: -2 if action is not in 0 .. 3", () -> {
            for (int n : new int[] {0, 1, 11}) {
                for (int action : NOT_AN_ACTION) {
                    singles(n).due(-2, "put", 0, action).due(-2, "put", n, action).due(n, "rules");
                }
            }
        });
        test("Promise 4: -3 if there are 12 rules", () -> {
            Run run = singles(12);
            for (int pos = 0; pos <= 12; pos++) {
                run.due(-3, "put", pos, pos % 4).due(12, "rules");
            }
            run.dueOrder(0, 1, 2, 3, 4, 5, 6, 7, 8, 9, 10, 11);
            run.due(3, "remove", 11).due(12, "put", 11, 3).due(-3, "put", 12, 0);
        });
        test("Promise 4: otherwise answers how many there are now", () -> {
            Run atEnd = new Run();
            Run atStart = new Run();
            for (int n = 1; n <= 12; n++) {
                atEnd.due(n, "put", n - 1, 3);
                atStart.due(n, "put", 0, 0);
            }
            atEnd.go("remove", 0).go("remove", 0).due(11, "put", 10, 1).due(12, "put", 4, 1);
        });
    }

    private static void remove() {
        test("Promise 5: later ones move down by one", () -> {
            singles(4).go("remove", 0).dueOrder(1, 2, 3).due(-2, "matched", 0);
            singles(4).go("remove", 1).dueOrder(0, 2, 3).due(-2, "matched", 1);
            singles(4).go("remove", 3).dueOrder(0, 1, 2).due(-2, "matched", 3);
            singles(1).go("remove", 0).dueOrder().due(-2, "matched", 0);
            singles(12).go("remove", 0).dueOrder(1, 2, 3, 4, 5, 6, 7, 8, 9, 10, 11).due(-2, "matched", 0);
            singles(12).go("remove", 10).dueOrder(0, 1, 2, 3, 4, 5, 6, 7, 8, 9, 11).due(-2, "matched", 10);
            singles(12).go("remove", 11).dueOrder(0, 1, 2, 3, 4, 5, 6, 7, 8, 9, 10).due(-2, "matched", 11);
        });
        test("Promise 5: -1 if there is no such rule", () -> {
            for (int n : new int[] {0, 1, 11, 12}) {
                for (int pos : new int[] {-1, n, n + 1, 12, 13, MIN, MAX}) {
                    if (pos < 0 || pos >= n) {
                        singles(n).due(-1, "remove", pos).due(n, "rules");
                    }
                }
            }
            singles(2).go("remove", 0).go("remove", 0).due(-1, "remove", 0).due(0, "rules");
        });
        test("Promise 5: otherwise answers its action", () -> {
            Run fromEnd = singles(12);
            Run fromStart = singles(12);
            for (int i = 0; i < 12; i++) {
                fromStart.due(i % 4, "remove", 0);
                fromEnd.due((11 - i) % 4, "remove", 11 - i);
            }
        });
    }

    private static void move() {
        test("Promise 6: to position to, counted after it has been taken out", () -> {
            singles(4).due(0, "move", 0, 3).dueOrder(1, 2, 3, 0);
            singles(4).due(0, "move", 3, 0).dueOrder(3, 0, 1, 2);
            singles(4).due(0, "move", 0, 2).dueOrder(1, 2, 0, 3);
            singles(4).due(0, "move", 0, 1).dueOrder(1, 0, 2, 3);
            singles(4).due(0, "move", 2, 1).dueOrder(0, 2, 1, 3);
            singles(4).due(0, "move", 3, 2).dueOrder(0, 1, 3, 2);
            singles(12).due(0, "move", 0, 11).dueOrder(1, 2, 3, 4, 5, 6, 7, 8, 9, 10, 11, 0);
            singles(12).due(0, "move", 11, 0).dueOrder(11, 0, 1, 2, 3, 4, 5, 6, 7, 8, 9, 10);
            for (int pos = 0; pos < 4; pos++) {
                singles(4).due(0, "move", pos, pos).dueOrder(0, 1, 2, 3);
            }
            singles(1).due(0, "move", 0, 0).dueOrder(0);
        });
        test("Promise 6: -1 if there is no rule at from", () -> {
            for (int n : new int[] {0, 1, 11, 12}) {
                for (int from : new int[] {-1, n, n + 1, 12, 13, MIN, MAX}) {
                    if (from < 0 || from >= n) {
                        singles(n).due(-1, "move", from, 0).due(n, "rules");
                    }
                }
            }
        });
        test("Promise 6: -2 if to is not in 0 .. rules()-1", () -> {
            for (int n : new int[] {1, 2, 11, 12}) {
                for (int to : new int[] {-1, n, n + 1, 12, 13, MIN, MAX}) {
                    if (to < 0 || to >= n) {
                        singles(n).due(-2, "move", 0, to).due(-2, "move", n - 1, to).due(n, "rules");
                    }
                }
            }
        });
        test("Promise 6: otherwise 0", () -> {
            for (int n : new int[] {1, 2, 12}) {
                singles(n).due(0, "move", 0, 0).due(0, "move", 0, n - 1).due(0, "move", n - 1, 0)
                        .due(0, "move", n - 1, n - 1).due(n, "rules");
            }
        });
    }

    private static void change() {
        test("Promise 7: Changes the action of the rule at pos", () -> {
            for (int pos : new int[] {0, 5, 11}) {
                Run run = singles(12).go("change", pos, (pos + 1) % 4);
                for (int number = 0; number < 12; number++) {
                    run.due((number == pos ? number + 1 : number) % 4, "decide", number);
                }
                run.due(0, "decide", 12).due(12, "rules");
            }
        });
        test("Promise 7: -1 if there is no such rule", () -> {
            for (int n : new int[] {0, 1, 11, 12}) {
                for (int pos : new int[] {-1, n, n + 1, 12, 13, MIN, MAX}) {
                    if (pos < 0 || pos >= n) {
                        singles(n).due(-1, "change", pos, 0);
                    }
                }
            }
        });
        test("Promise 7: -2 if action is not in 0 .. 3", () -> {
            for (int action : NOT_AN_ACTION) {
                singles(12).due(-2, "change", 0, action).due(-2, "change", 11, action)
                        .due(0, "decide", 0).due(3, "decide", 11);
            }
        });
        test("Promise 7: otherwise answers the action before", () ->
            singles(12).due(3, "change", 11, 0).due(0, "change", 11, 3).due(3, "change", 11, 3)
                    .due(0, "change", 0, 3).due(3, "change", 0, 0).due(0, "change", 0, 0));
    }

    private static void fallback() {
        test("Promise 8: -1 if action is not in 0 .. 3", () -> {
            for (int action : NOT_AN_ACTION) {
                new Run().due(0, "fallback", 2).due(-1, "fallback", action).due(2, "decide", 0);
            }
        });
        test("Promise 8: otherwise answers the one before", () ->
            new Run().due(0, "fallback", 3).due(3, "fallback", 3).due(3, "fallback", 0).due(0, "fallback", 0)
                    .due(0, "fallback", 1).due(1, "fallback", 2).due(2, "fallback", 0));
    }

    private static void rules() {
        test("Promise 9: How many rules there are", () -> {
            Run run = new Run().due(0, "rules");
            for (int n = 1; n <= 12; n++) {
                run.go("put", 0, 0).due(n, "rules");
            }
            run.due(-3, "put", 0, 0).due(12, "rules").go("move", 0, 11).due(12, "rules");
            for (int n = 11; n >= 0; n--) {
                run.go("remove", n).due(n, "rules");
            }
            run.due(-1, "remove", 0).due(0, "rules");
        });
    }

    private static void argument() {
        test("Promise 10: -1 if i is not 0 or 1", () -> {
            for (int i : NOT_0_OR_1) {
                new Run().due(-1, "argument", i, 0).due(-1, "argument", i, MAX);
            }
        });
        test("Promise 10: otherwise 0", () -> {
            for (int value : new int[] {MIN, -1, 0, 1, MAX}) {
                new Run().due(0, "argument", 0, value).due(0, "argument", 1, value);
            }
        });
    }

    private static void decide() {
        test("Promise 11: -1 if number is not in 0 .. 31", () -> {
            for (int number : NOT_A_NUMBER) {
                new Run().due(-1, "decide", number).go("put", 0, 1).due(-1, "decide", number)
                        .go("fallback", 3).due(-1, "decide", number);
            }
            new Run().go("put", 0, 3).due(3, "decide", 0).due(3, "decide", 31);
        });
    }

    private static void matched() {
        test("Promise 12: The position of the matching rule with the least position", () -> {
            singles(12).due(0, "matched", 0).due(11, "matched", 11);
            new Run().go("put", 0, 0).go("put", 0, 0).due(0, "matched", 0).due(0, "matched", 31);
        });
        test("Promise 12: -1 if number is not in 0 .. 31", () -> {
            for (int number : NOT_A_NUMBER) {
                new Run().due(-1, "matched", number).go("put", 0, 1).due(-1, "matched", number);
            }
        });
        test("Promise 12: -2 if no rule matches", () -> {
            new Run().due(-2, "matched", 0).due(-2, "matched", 31);
            new Run().go("range", 1, 30).go("put", 0, 0).due(-2, "matched", 0).due(0, "matched", 1)
                    .due(0, "matched", 30).due(-2, "matched", 31);
            new Run().go("condition", 1, SyscallFilter.GREATER, -1, MAX).go("put", 0, 0)
                    .due(-2, "matched", 0).go("argument", 0, MAX).due(-2, "matched", 31);
            singles(12).due(-2, "matched", 12);
        });
    }

    private static void countWith() {
        test("Promise 13: How many of the calls with the numbers first .. last", () -> {
            Run run = new Run().go("range", 10, 12).go("put", 0, 1);
            run.due(3, "countWith", 1, 0, 31).due(29, "countWith", 0, 0, 31).due(0, "countWith", 2, 0, 31);
            run.due(0, "countWith", 1, 9, 9).due(1, "countWith", 1, 10, 10).due(1, "countWith", 1, 12, 12)
                    .due(0, "countWith", 1, 13, 13).due(1, "countWith", 1, 12, 31).due(1, "countWith", 1, 0, 10);
            run.due(1, "countWith", 0, 0, 0).due(1, "countWith", 0, 31, 31);
            for (int action = 0; action < 4; action++) {
                new Run().go("fallback", action).due(32, "countWith", action, 0, 31)
                        .due(0, "countWith", 3 - action, 0, 31);
            }
        });
        test("Promise 13: -1 if first or last is not in 0 .. 31", () -> {
            for (int number : NOT_A_NUMBER) {
                new Run().due(-1, "countWith", 0, number, 31).due(-1, "countWith", 0, 0, number)
                        .due(-1, "countWith", 0, number, number).due(-1, "countWith", 0, number, 0)
                        .due(-1, "countWith", 0, 31, number);
            }
        });
        test("Promise 13: -2 if first > last", () -> {
            Run run = new Run().due(-2, "countWith", 0, 31, 0);
            for (int number = 1; number < 32; number++) {
                run.due(-2, "countWith", 0, number, number - 1);
            }
        });
        test("Promise 13: -3 if action is not in 0 .. 3", () -> {
            for (int action : NOT_AN_ACTION) {
                new Run().due(-3, "countWith", action, 0, 31).due(-3, "countWith", action, 0, 0)
                        .due(-3, "countWith", action, 31, 31);
            }
        });
    }

    private static void nextWith() {
        test("Promise 14: The least number >= from", () -> {
            Run run = new Run().go("range", 10, 11).go("put", 0, 1).go("range", 31, 31).go("put", 0, 1);
            run.due(10, "nextWith", 1, 0).due(10, "nextWith", 1, 9).due(10, "nextWith", 1, 10)
                    .due(11, "nextWith", 1, 11).due(31, "nextWith", 1, 12).due(31, "nextWith", 1, 31);
            run.due(0, "nextWith", 0, 0).due(12, "nextWith", 0, 10).due(30, "nextWith", 0, 30);
        });
        test("Promise 14: -1 if action is not in 0 .. 3", () -> {
            for (int action : NOT_AN_ACTION) {
                new Run().due(-1, "nextWith", action, 0).due(-1, "nextWith", action, 31);
            }
        });
        test("Promise 14: -2 if from is not in 0 .. 31", () -> {
            for (int from : NOT_A_NUMBER) {
                new Run().due(-2, "nextWith", 0, from).due(-2, "nextWith", 3, from);
            }
        });
        test("Promise 14: -3 if there is none", () -> {
            new Run().due(-3, "nextWith", 1, 0).due(-3, "nextWith", 3, 31);
            new Run().go("put", 0, 1).due(-3, "nextWith", 0, 0).due(-3, "nextWith", 0, 31);
            // There is none from there on, though there is one below.
            new Run().go("range", 0, 30).go("put", 0, 2).due(30, "nextWith", 2, 30).due(-3, "nextWith", 2, 31);
        });
    }

    private static void matching() {
        test("Promise 15: How many rules match", () -> {
            Run run = new Run().due(0, "matching", 0).due(0, "matching", 31);
            for (int n = 1; n <= 12; n++) {
                run.go("put", 0, 0).due(n, "matching", 0).due(n, "matching", 31);
            }
            run.go("remove", 11).due(11, "matching", 0);
            // Of a full list, none and just the last.
            singles(12).due(0, "matching", 12).due(1, "matching", 11);
        });
        test("Promise 15: -1 if number is not in 0 .. 31", () -> {
            for (int number : NOT_A_NUMBER) {
                new Run().due(-1, "matching", number).go("put", 0, 1).due(-1, "matching", number);
            }
        });
    }

    private static void hidden() {
        test("Promise 16: 1 if for every number of the rule's range there is a rule", () -> {
            // Short by the first number, by the last, by one within, and by none.
            new Run().plain(0, 6, 31, 0).plain(1, 5, 9, 0).due(0, "hidden", 1);
            new Run().plain(0, 0, 8, 0).plain(1, 5, 9, 0).due(0, "hidden", 1);
            new Run().plain(0, 0, 6, 0).plain(1, 8, 31, 0).plain(2, 5, 9, 0).due(0, "hidden", 2);
            new Run().plain(0, 5, 9, 0).plain(1, 5, 9, 0).due(1, "hidden", 1);
            new Run().plain(0, 8, 9, 0).plain(1, 5, 7, 0).plain(2, 5, 9, 0).due(1, "hidden", 2);
            // The least and the greatest number, and all of them.
            new Run().plain(0, 0, 0, 0).plain(1, 0, 0, 0).due(1, "hidden", 1);
            new Run().plain(0, 31, 31, 0).plain(1, 31, 31, 0).due(1, "hidden", 1);
            new Run().plain(0, 1, 31, 0).plain(1, 0, 31, 0).due(0, "hidden", 1);
            new Run().plain(0, 0, 30, 0).plain(1, 0, 31, 0).due(0, "hidden", 1);
            new Run().plain(0, 0, 31, 0).plain(1, 0, 31, 0).due(1, "hidden", 1);
            // A full list: eleven rules hide the last one, and ten do not.
            singles(11).go("range", 0, 10).go("put", 11, 1).due(1, "hidden", 11)
                    .go("move", 10, 11).due(0, "hidden", 10).due(1, "hidden", 11);
        });
        test("Promise 16: with a lesser position", () -> {
            new Run().go("put", 0, 0).due(0, "hidden", 0);
            new Run().go("put", 0, 0).go("put", 1, 0).due(0, "hidden", 0).due(1, "hidden", 1);
            new Run().plain(0, 5, 5, 0).plain(1, 0, 31, 0).due(0, "hidden", 0).due(0, "hidden", 1)
                    .go("move", 1, 0).due(0, "hidden", 0).due(1, "hidden", 1);
        });
        test("Promise 16: whose conditions are both empty", () -> {
            for (int slot = 0; slot < 2; slot++) {
                for (int what : new int[] {1, 2, 3, 4, 5, 6, 9, 10, 11, 12, 13, 14}) {
                    new Run().go("condition", slot, what, 0, 0).go("put", 0, 0).due(0, "hidden", 0)
                            .go("condition", slot, 0, 0, 0).go("put", 1, 0).due(0, "hidden", 1)
                            .go("put", 2, 0).due(1, "hidden", 2);
                }
                // The hidden rule's own conditions may be of any kind.
                new Run().go("put", 0, 0).go("condition", slot, SyscallFilter.EQUAL, -1, 1).go("put", 1, 0)
                        .due(1, "hidden", 1);
            }
        });
        test("Promise 16: -1 if there is no such rule", () -> {
            for (int n : new int[] {0, 1, 11, 12}) {
                for (int pos : new int[] {-1, n, n + 1, 12, 13, MIN, MAX}) {
                    if (pos < 0 || pos >= n) {
                        singles(n).due(-1, "hidden", pos);
                    }
                }
            }
            // Not even where one has been.
            new Run().go("put", 0, 0).go("put", 1, 0).go("remove", 1).due(-1, "hidden", 1);
        });
    }

    private static void stretches() {
        test("Promise 17: How many stretches of numbers there are", () -> {
            new Run().due(1, "stretches");
            new Run().go("put", 0, 0).due(1, "stretches").go("put", 0, 3).due(1, "stretches");
            new Run().plain(0, 0, 0, 0).due(2, "stretches");
            new Run().plain(0, 31, 31, 0).due(2, "stretches");
            new Run().plain(0, 0, 0, 0).plain(1, 31, 31, 0).due(3, "stretches");
            Run most = new Run();
            for (int i = 0; i < 12; i++) {
                most.go("range", 2 * i + 1, 2 * i + 1).go("put", 0, 0).due(2 * i + 3, "stretches");
            }
            singles(12).due(13, "stretches").go("remove", 0).due(13, "stretches").go("remove", 10).due(12, "stretches");
        });
        test("Promise 17: just the same rules have them in their ranges", () -> {
            // As many rules on both sides of a border, with the same action, and yet not the same ones.
            new Run().plain(0, 0, 15, 1).plain(1, 16, 31, 1).due(2, "stretches");
            // One rule twice sets no more borders than once; neighbours 15 and 16 differ by one of two rules.
            new Run().plain(0, 0, 15, 1).plain(1, 0, 15, 2).due(2, "stretches");
            new Run().plain(0, 0, 31, 1).plain(1, 0, 15, 1).due(2, "stretches");
            // The same rules on both sides of a gap make two stretches, for only neighbours are compared.
            new Run().plain(0, 0, 31, 1).plain(1, 9, 9, 1).due(3, "stretches");
            // Ranges alone count, not conditions.
            new Run().go("condition", 0, SyscallFilter.DIFFERENT, 0, 0).go("range", 9, 9).go("put", 0, 1)
                    .due(3, "stretches");
        });
    }

    private static void open() {
        test("Promise 18: because no rule has them in its range", () -> {
            new Run().due(32, "open").go("put", 0, 0).due(0, "open").go("remove", 0).due(32, "open");
            new Run().plain(0, 0, 0, 0).due(31, "open").plain(1, 31, 31, 0).due(30, "open")
                    .plain(2, 1, 30, 0).due(0, "open");
            new Run().plain(0, 0, 30, 0).due(1, "open").plain(0, 0, 30, 0).due(1, "open");
            singles(12).due(20, "open").go("remove", 11).due(21, "open");
            // A rule that is never met, or has the default action, still has its numbers.
            new Run().go("condition", 1, 8 + SyscallFilter.DIFFERENT, 0, 0).go("put", 0, 1).due(0, "open")
                    .go("fallback", 1).due(0, "open");
        });
        test("Promise 18: have the default action for all arguments", () ->
            new Run().go("range", 0, 7).go("put", 0, 0).due(24, "open").go("fallback", 3).due(24, "open")
                    .go("argument", 0, MIN).go("argument", 1, MAX).due(24, "open"));
    }
}
