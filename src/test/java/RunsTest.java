import java.util.ArrayList;
import java.util.List;

/**
 * Long mixed runs of calls, wrong arguments among them. Each answer is compared
 * with the one worked out from the document's words over lists of literals and
 * arrays of truths, which the class itself does not use.
 */
public final class RunsTest {
    private static final int RUNS = 100;
    private static final int CALLS = 512;

    private static int wrong = 0;

    /** A fixed row of numbers for each start, so that every time the same calls are made. */
    private static final class Numbers {
        private long state;

        Numbers(long start) {
            state = start;
        }

        int any() {
            state = state * 6364136223846793005L + 1442695040888963407L;
            return (int) (state >>> 32);
        }

        int below(int bound) {
            return Math.floorMod(any() >>> 1, bound);
        }
    }

    /** What the document says, in its plainest form. */
    private static final class Words {
        final List<List<Integer>> clauses = new ArrayList<>();
        List<Integer> draft = new ArrayList<>();
        final int[][] w = new int[8][2];

        Words() {
            for (int[] pair : w) {
                pair[0] = 1;
                pair[1] = 1;
            }
        }

        static boolean within(int n, int low, int high) {
            return low <= n && n <= high;
        }

        static boolean[] truths(int number) {
            boolean[] t = new boolean[8];
            for (int v = 0; v < 8; v++) {
                t[v] = number % 2 == 1;
                number /= 2;
            }
            return t;
        }

        static int number(boolean[] t) {
            int sum = 0;
            int power = 1;
            for (boolean truth : t) {
                sum += truth ? power : 0;
                power *= 2;
            }
            return sum;
        }

        static int size(boolean[] t) {
            int n = 0;
            for (boolean truth : t) {
                n += truth ? 1 : 0;
            }
            return n;
        }

        boolean holds(boolean[] t) {
            return clauses.stream().allMatch(c -> c.stream().anyMatch(l -> t[l / 2] == (l % 2 == 0)));
        }

        List<boolean[]> models() {
            List<boolean[]> all = new ArrayList<>();
            for (int a = 0; a < 256; a++) {
                if (holds(truths(a))) {
                    all.add(truths(a));
                }
            }
            return all;
        }

        long weightOf(boolean[] t) {
            long product = 1;
            for (int v = 0; v < 8; v++) {
                product *= t[v] ? w[v][1] : w[v][0];
            }
            return product;
        }

        int literal(int l) {
            if (!within(l, 0, 15)) {
                return -1;
            }
            if (draft.size() == 3) {
                return -2;
            }
            draft.add(l);
            return draft.size();
        }

        int scrap() {
            draft = new ArrayList<>();
            return 0;
        }

        int clause() {
            if (clauses.size() == 14) {
                return -2;
            }
            clauses.add(draft);
            draft = new ArrayList<>();
            return clauses.size() - 1;
        }

        int unclause() {
            if (clauses.isEmpty()) {
                return -4;
            }
            clauses.remove(clauses.size() - 1);
            return clauses.size();
        }

        int weight(int v, int b, int to) {
            if (!within(v, 0, 7) || !within(b, 0, 1) || !within(to, 0, 9)) {
                return -1;
            }
            int before = w[v][b];
            w[v][b] = to;
            return before;
        }

        int countWith(int set, int truths) {
            if (!within(set, 0, 255) || !within(truths, 0, 255)) {
                return -1;
            }
            boolean[] in = truths(set);
            boolean[] as = truths(truths);
            int n = 0;
            for (boolean[] t : models()) {
                boolean same = true;
                for (int v = 0; v < 8; v++) {
                    same = same && (!in[v] || t[v] == as[v]);
                }
                n += same ? 1 : 0;
            }
            return n;
        }

        int countSize(int k) {
            return (int) models().stream().filter(t -> size(t) == k).count();
        }

        int weighted() {
            return (int) models().stream().mapToLong(this::weightOf).sum();
        }

        int share(int v, int b) {
            if (!within(v, 0, 7) || !within(b, 0, 1)) {
                return 0;
            }
            return (int) models().stream().filter(t -> t[v] == (b == 1)).mapToLong(this::weightOf).sum();
        }

        int model(int k) {
            List<boolean[]> all = models();
            return within(k, 0, all.size() - 1) ? number(all.get(k)) : -4;
        }

        int rank(int a) {
            return within(a, 0, 256) ? (int) models().stream().filter(t -> number(t) < a).count() : -1;
        }

        int isModel(int a) {
            return within(a, 0, 255) && holds(truths(a)) ? 1 : 0;
        }

        int always(boolean truth) {
            List<boolean[]> all = models();
            if (all.isEmpty()) {
                return -4;
            }
            boolean[] set = new boolean[8];
            for (int i = 0; i < 8; i++) {
                int v = i;
                set[v] = all.stream().allMatch(t -> t[v] == truth);
            }
            return number(set);
        }

        int idle() {
            boolean[] set = new boolean[8];
            for (int v = 0; v < 8; v++) {
                set[v] = true;
                for (boolean[] t : models()) {
                    t[v] = !t[v];
                    set[v] = set[v] && holds(t);
                }
            }
            return number(set);
        }

        int leastTrue() {
            return models().stream().mapToInt(Words::size).min().orElse(-4);
        }
    }

    /** Mostly from low - 2 to high + 2, now and then far off. */
    private static int near(Numbers numbers, int low, int high) {
        return numbers.below(40) == 0 ? numbers.any() : low - 2 + numbers.below(high - low + 5);
    }

    private static void due(int run, int call, String text, int got, int want) {
        if (got != want) {
            wrong++;
            System.out.println("run " + run + ", call " + call + ": " + text + " answered " + got + ", due is " + want);
        }
    }

    private static int scrapped(ModelCounter x) {
        x.scrap();
        return 0;
    }

    /** Every fourth run keeps near to one assignment, so that few models are left and yet one is. */
    private static boolean isNarrow(int run) {
        return run % 4 == 3;
    }

    private static int anyLiteral(int run, Numbers numbers) {
        if (!isNarrow(run) || numbers.below(10) == 0) {
            return near(numbers, 0, 15);
        }
        int v = numbers.below(8);
        return Words.truths(37 * run % 256)[v] ? 2 * v : 2 * v + 1;
    }

    private static void change(int run, int call, Numbers numbers, ModelCounter x, Words y) {
        int kind = numbers.below(20);
        if (kind < (isNarrow(run) ? 6 : 10)) {
            int l = anyLiteral(run, numbers);
            due(run, call, "literal(" + l + ")", x.literal(l), y.literal(l));
        } else if (kind < 13) {
            // An empty clause ends all models, so most runs pass it by.
            if (!y.draft.isEmpty() || numbers.below(isNarrow(run) ? 100 : 10) == 0) {
                due(run, call, "clause()", x.clause(), y.clause());
            }
        } else if (kind < 14) {
            due(run, call, "scrap()", scrapped(x), y.scrap());
        } else if (kind < 16) {
            // Runs of odd number seldom remove, so that they reach 14 clauses.
            if (run % 2 == 0 || numbers.below(8) == 0) {
                due(run, call, "unclause()", x.unclause(), y.unclause());
            }
        } else {
            int v = near(numbers, 0, 7);
            int b = near(numbers, 0, 1);
            int w = near(numbers, 0, 9);
            due(run, call, "weight(" + v + ", " + b + ", " + w + ")", x.weight(v, b, w), y.weight(v, b, w));
        }
    }

    private static void ask(int run, int call, Numbers numbers, ModelCounter x, Words y) {
        int k = near(numbers, 0, 8);
        int a = near(numbers, 0, 256);
        int s = near(numbers, 0, 255);
        int b = near(numbers, 0, 1);
        switch (numbers.below(13)) {
            case 0 -> due(run, call, "clauses()", x.clauses(), y.clauses.size());
            case 1 -> due(run, call, "count()", x.count(), y.models().size());
            case 2 -> due(run, call, "countWith(" + s + ", " + a + ")", x.countWith(s, a), y.countWith(s, a));
            case 3 -> due(run, call, "countSize(" + k + ")", x.countSize(k), y.countSize(k));
            case 4 -> due(run, call, "weighted()", x.weighted(), y.weighted());
            case 5 -> due(run, call, "share(" + k + ", " + b + ")", x.share(k, b), y.share(k, b));
            case 6 -> {
                int i = near(numbers, 0, y.models().size());
                due(run, call, "model(" + i + ")", x.model(i), y.model(i));
            }
            case 7 -> due(run, call, "rank(" + a + ")", x.rank(a), y.rank(a));
            case 8 -> due(run, call, "isModel(" + a + ")", x.isModel(a) ? 1 : 0, y.isModel(a));
            case 9 -> due(run, call, "alwaysTrue()", x.alwaysTrue(), y.always(true));
            case 10 -> due(run, call, "alwaysFalse()", x.alwaysFalse(), y.always(false));
            case 11 -> due(run, call, "idle()", x.idle(), y.idle());
            default -> due(run, call, "leastTrue()", x.leastTrue(), y.leastTrue());
        }
    }

    public static void main(String[] args) {
        for (int run = 0; run < RUNS && wrong < 50; run++) {
            Numbers numbers = new Numbers(run);
            ModelCounter x = new ModelCounter();
            Words y = new Words();
            for (int call = 0; call < CALLS; call++) {
                if (numbers.below(3) == 0) {
                    change(run, call, numbers, x, y);
                } else {
                    ask(run, call, numbers, x, y);
                }
            }
        }
        System.out.println(wrong == 0 ? "all answers are as due" : wrong + " answers are not as due");
        if (wrong != 0) {
            System.exit(1);
        }
    }
}
