import java.util.ArrayList;
import java.util.HashSet;
import java.util.List;
import java.util.Set;

/** Long runs of calls on the class and on a plain second implementation: the answers must be the same. */
public final class ModelTest {
    private static final int RUNS = 4000;
    /** The document promises nothing about an object after its 512th call. */
    private static final int CALLS = 512;
    private static final int SHOWN = 20;

    private record Condition(int argument, int comparison, int mask, int value) {
        boolean met(int[] arguments) {
            long left = arguments[argument] & mask;
            long right = value;
            return switch (comparison) {
                case 0 -> true;
                case 1 -> left == right;
                case 2 -> left != right;
                case 3 -> left < right;
                case 4 -> left <= right;
                case 5 -> left > right;
                case 6 -> left >= right;
                default -> throw new IllegalStateException("comparison " + comparison);
            };
        }
    }

    private record Rule(int first, int last, Condition zero, Condition one, int action) {
        boolean has(int number) {
            return first <= number && number <= last;
        }

        boolean matches(int number, int[] arguments) {
            return has(number) && zero.met(arguments) && one.met(arguments);
        }

        boolean bare() {
            return zero.comparison == 0 && one.comparison == 0;
        }

        Rule withAction(int other) {
            return new Rule(first, last, zero, one, other);
        }
    }

    private static final class Model {
        private static final Condition NONE = new Condition(0, 0, 0, 0);
        private final List<Rule> list = new ArrayList<>();
        private final int[] arguments = {0, 0};
        private Rule draft = new Rule(0, 31, NONE, NONE, 0);
        private int standard = 0;

        private static boolean within(int n, int low, int high) {
            return low <= n && n <= high;
        }

        private boolean present(int pos) {
            return within(pos, 0, list.size() - 1);
        }

        int range(int first, int last) {
            if (!within(first, 0, 31) || !within(last, 0, 31)) return -1;
            if (first > last) return -2;
            draft = new Rule(first, last, draft.zero, draft.one, 0);
            return 0;
        }

        int condition(int slot, int what, int mask, int value) {
            if (!within(slot, 0, 1)) return -1;
            if (!within(what, 0, 15) || (what & 7) == 7) return -2;
            Condition made = (what & 7) == 0 ? NONE : new Condition(what >> 3, what & 7, mask, value);
            draft = slot == 0 ? new Rule(draft.first, draft.last, made, draft.one, 0)
                    : new Rule(draft.first, draft.last, draft.zero, made, 0);
            return 0;
        }

        int put(int pos, int action) {
            if (!within(pos, 0, list.size())) return -1;
            if (!within(action, 0, 3)) return -2;
            if (list.size() == 12) return -3;
            list.add(pos, draft.withAction(action));
            return list.size();
        }

        int remove(int pos) {
            return present(pos) ? list.remove(pos).action : -1;
        }

        int move(int from, int to) {
            if (!present(from)) return -1;
            if (!present(to)) return -2;
            list.add(to, list.remove(from));
            return 0;
        }

        int change(int pos, int action) {
            if (!present(pos)) return -1;
            if (!within(action, 0, 3)) return -2;
            return list.set(pos, list.get(pos).withAction(action)).action;
        }

        int fallback(int action) {
            if (!within(action, 0, 3)) return -1;
            int before = standard;
            standard = action;
            return before;
        }

        int argument(int i, int value) {
            if (!within(i, 0, 1)) return -1;
            arguments[i] = value;
            return 0;
        }

        private List<Integer> positions(int number) {
            List<Integer> found = new ArrayList<>();
            for (int pos = 0; pos < list.size(); pos++) {
                if (list.get(pos).matches(number, arguments)) found.add(pos);
            }
            return found;
        }

        int decide(int number) {
            if (!within(number, 0, 31)) return -1;
            List<Integer> found = positions(number);
            return found.isEmpty() ? standard : list.get(found.get(0)).action;
        }

        int matched(int number) {
            if (!within(number, 0, 31)) return -1;
            List<Integer> found = positions(number);
            return found.isEmpty() ? -2 : found.get(0);
        }

        int matching(int number) {
            return within(number, 0, 31) ? positions(number).size() : -1;
        }

        int countWith(int action, int first, int last) {
            if (!within(first, 0, 31) || !within(last, 0, 31)) return -1;
            if (first > last) return -2;
            if (!within(action, 0, 3)) return -3;
            int found = 0;
            for (int number = 0; number < 32; number++) {
                if (within(number, first, last) && decide(number) == action) found++;
            }
            return found;
        }

        int nextWith(int action, int from) {
            if (!within(action, 0, 3)) return -1;
            if (!within(from, 0, 31)) return -2;
            int found = -3;
            for (int number = 31; number >= from; number--) {
                if (decide(number) == action) found = number;
            }
            return found;
        }

        int hidden(int pos) {
            if (!present(pos)) return -1;
            Set<Integer> left = new HashSet<>();
            for (int number = 0; number < 32; number++) {
                if (list.get(pos).has(number)) left.add(number);
            }
            for (Rule rule : list.subList(0, pos)) {
                if (rule.bare()) left.removeIf(rule::has);
            }
            return left.isEmpty() ? 1 : 0;
        }

        private Set<Integer> having(int number) {
            Set<Integer> found = new HashSet<>();
            for (int pos = 0; pos < list.size(); pos++) {
                if (list.get(pos).has(number)) found.add(pos);
            }
            return found;
        }

        int stretches() {
            int found = 0;
            Set<Integer> before = null;
            for (int number = 0; number < 32; number++) {
                Set<Integer> now = having(number);
                if (!now.equals(before)) found++;
                before = now;
            }
            return found;
        }

        int open() {
            int found = 0;
            for (int number = 0; number < 32; number++) {
                if (having(number).isEmpty()) found++;
            }
            return found;
        }
    }

    private static final int[] EDGES = {
        Integer.MIN_VALUE, Integer.MIN_VALUE + 1, -100, -2, -1, 0, 1, 2, 3, 4, 7, 8, 12, 13, 15, 16, 31, 32, 255,
        Integer.MAX_VALUE - 1, Integer.MAX_VALUE
    };

    private static long state = 0;
    private static int wrong = 0;

    /** The same numbers in every run of the test. */
    private static int pick(int bound) {
        state = state * 6364136223846793005L + 1442695040888963407L;
        return (int) ((state >>> 33) % bound);
    }

    private static int edge() {
        return EDGES[pick(EDGES.length)];
    }

    /** Mostly in low .. high, now and then just outside or far off. */
    private static int near(int low, int high) {
        int way = pick(24);
        if (way == 0) return edge();
        if (way == 1) return low - 1;
        if (way == 2) return high + 1;
        return low + pick(Math.max(1, high - low + 1));
    }

    private static int anyInt() {
        return pick(4) == 0 ? pick(Integer.MAX_VALUE) * (pick(2) == 0 ? 1 : -1) : edge();
    }

    public static void main(String[] args) {
        for (int run = 1; run <= RUNS && wrong < SHOWN; run++) {
            state = run * 7919L;
            oneRun(run);
        }
        System.out.println(wrong == 0 ? RUNS + " runs are as due" : wrong + " answers are not as due");
        if (wrong != 0) {
            System.exit(1);
        }
    }

    private static void oneRun(int run) {
        SyscallFilter x = new SyscallFilter();
        Model m = new Model();
        // Some runs fill the list, others keep it short.
        int removeOneIn = 1 + pick(6);
        for (int call = 1; call <= CALLS; call++) {
            int kind = pick(20);
            if (kind == 19 && pick(removeOneIn) != 0) {
                kind = 2;
            }
            if (!(kind < 8 || kind == 19 ? order(run, call, kind, x, m) : question(run, call, kind, x, m))) {
                return;
            }
        }
    }

    private static boolean same(int run, int call, String text, int got, int want) {
        if (got == want) {
            return true;
        }
        wrong++;
        System.out.println("run " + run + ", call " + call + ": " + text + " answered " + got + ", due is " + want);
        return false;
    }

    private static String text(String name, int... parameters) {
        StringBuilder made = new StringBuilder(name);
        for (int parameter : parameters) {
            made.append(' ').append(parameter);
        }
        return made.toString();
    }

    private static boolean order(int run, int call, int kind, SyscallFilter x, Model m) {
        int size = m.list.size();
        int a = near(0, size - 1);
        int b = near(0, 3);
        switch (kind) {
            case 0: {
                int first = near(0, 31);
                int room = 32 - Math.max(0, Math.min(first, 31));
                int last = pick(8) == 0 ? near(0, 31) : first + pick(room);
                return same(run, call, text("range", first, last), x.range(first, last), m.range(first, last));
            }
            case 1: {
                int slot = near(0, 1);
                int what = pick(2) == 0 ? near(0, 15) : 8 * pick(2);
                int mask = pick(2) == 0 ? -1 : anyInt();
                int value = anyInt();
                return same(run, call, text("condition", slot, what, mask, value),
                        x.condition(slot, what, mask, value), m.condition(slot, what, mask, value));
            }
            case 2:
            case 3: {
                int pos = near(0, size);
                return same(run, call, text("put", pos, b), x.put(pos, b), m.put(pos, b));
            }
            case 4: {
                int to = near(0, size - 1);
                return same(run, call, text("move", a, to), x.move(a, to), m.move(a, to));
            }
            case 5:
                return same(run, call, text("change", a, b), x.change(a, b), m.change(a, b));
            case 6:
                return same(run, call, text("fallback", b), x.fallback(b), m.fallback(b));
            case 7: {
                int i = near(0, 1);
                int value = anyInt();
                return same(run, call, text("argument", i, value), x.argument(i, value), m.argument(i, value));
            }
            default:
                return same(run, call, text("remove", a), x.remove(a), m.remove(a));
        }
    }

    private static boolean question(int run, int call, int kind, SyscallFilter x, Model m) {
        int number = near(0, 31);
        int action = near(0, 3);
        switch (kind) {
            case 8:
                return same(run, call, "rules", x.rules(), m.list.size());
            case 9:
            case 10:
                return same(run, call, text("decide", number), x.decide(number), m.decide(number));
            case 11:
            case 12:
                return same(run, call, text("matched", number), x.matched(number), m.matched(number));
            case 13: {
                int last = near(0, 31);
                return same(run, call, text("countWith", action, number, last),
                        x.countWith(action, number, last), m.countWith(action, number, last));
            }
            case 14:
                return same(run, call, text("nextWith", action, number),
                        x.nextWith(action, number), m.nextWith(action, number));
            case 15:
                return same(run, call, text("matching", number), x.matching(number), m.matching(number));
            case 16: {
                int pos = near(0, m.list.size() - 1);
                return same(run, call, text("hidden", pos), x.hidden(pos), m.hidden(pos));
            }
            case 17:
                return same(run, call, "stretches", x.stretches(), m.stretches());
            default:
                return same(run, call, "open", x.open(), m.open());
        }
    }
}
