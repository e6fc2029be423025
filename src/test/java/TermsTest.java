import java.util.ArrayList;
import java.util.List;

/**
 * The sentences of "What it is" and "Terms", each with all the values that it
 * speaks of: every list of literals, every set, every assignment, every place.
 */
public final class TermsTest {
    private static final int NONE = -4;
    private static final int[] NO_LITERAL = {};

    private static int wrong = 0;
    private static String sentence = "";

    private static void says(String words) {
        sentence = words;
    }

    private static void due(String call, int got, int want) {
        if (got != want) {
            wrong++;
            System.out.println("[" + sentence + "] " + call + " answered " + got + ", due is " + want);
        }
    }

    private static void due(String call, boolean got, boolean want) {
        due(call, got ? 1 : 0, want ? 1 : 0);
    }

    private static ModelCounter with(int[]... clauses) {
        ModelCounter x = new ModelCounter();
        for (int[] literals : clauses) {
            add(x, literals);
        }
        return x;
    }

    private static void add(ModelCounter x, int... literals) {
        for (int l : literals) {
            x.literal(l);
        }
        x.clause();
    }

    private static int[] c(int... literals) {
        return literals;
    }

    private static boolean isTrue(int v, int a) {
        int power = 1;
        for (int n = 0; n < v; n++) {
            power *= 2;
        }
        return a / power % 2 == 1;
    }

    private static boolean anyIsTrue(int[] literals, int a) {
        for (int l : literals) {
            if (isTrue(l / 2, a) == (l % 2 == 0)) {
                return true;
            }
        }
        return false;
    }

    private static boolean allAreTrue(int[][] clauses, int a) {
        for (int[] literals : clauses) {
            if (!anyIsTrue(literals, a)) {
                return false;
            }
        }
        return true;
    }

    private static List<Integer> models(int[][] clauses) {
        List<Integer> all = new ArrayList<>();
        for (int a = 0; a < 256; a++) {
            if (allAreTrue(clauses, a)) {
                all.add(a);
            }
        }
        return all;
    }

    /** Formulas with many models, some, two, one and none, short ones and one of 14 clauses. */
    private static final int[][][] FORMULAS = {
        {},
        {c(0, 3, 15)},
        {c(2, 7), c(12), c(1, 4, 9)},
        {c(14), c(1, 3), c(5, 7), c(0, 2, 4), c(9, 11, 13)},
        {c(0, 2), c(1, 3), c(4, 6), c(5, 7), c(8, 10), c(9, 11), c(12, 14), c(13, 15)},
        {c(0, 3), c(1, 2), c(4), c(7), c(8), c(11), c(12), c(15)},
        {c(1), c(2), c(5), c(6), c(9), c(10), c(13), c(14)},
        {c(0, 2, 4), c(1, 3, 5), c(6, 8), c(7, 9), c(10, 12, 14), c(11, 13, 15), c(0, 15),
            c(2, 13), c(4, 11), c(1, 8), c(3, 6), c(5, 14), c(0, 1), c(7, 10, 12)},
        {c(0), c(2, 4), c(1, 6), c(7)},
        {c(8, 10), NO_LITERAL}
    };

    private static void clauseIsTrueIfOneLiteralIs() {
        says("2 v is true if variable v is true, 2 v + 1 if v is false; a clause is true if at least one is");
        List<int[]> lists = new ArrayList<>();
        lists.add(NO_LITERAL);
        for (int l = 0; l < 16; l++) {
            lists.add(c(l));
            for (int m = 0; m < 16; m++) {
                lists.add(c(l, m));
                for (int n = 0; n < 16; n++) {
                    lists.add(c(l, m, n));
                }
            }
        }
        for (int[] literals : lists) {
            ModelCounter x = with(literals);
            for (int a = 0; a < 256; a++) {
                due(literals.length + " literals, isModel(" + a + ")", x.isModel(a), anyIsTrue(literals, a));
            }
        }
    }

    private static void modelMakesAllClausesTrue() {
        says("A MODEL is an assignment that makes all clauses true");
        for (int place = 0; place < 14; place++) {
            int[][] clauses = new int[14][];
            for (int n = 0; n < 14; n++) {
                clauses[n] = n == place ? c(4, 11) : c(n, n ^ 1);
            }
            ModelCounter x = with(clauses);
            for (int a = 0; a < 256; a++) {
                due("clause " + place + " binds, isModel(" + a + ")", x.isModel(a), anyIsTrue(clauses[place], a));
            }
            for (int n = 13; n >= 0; n--) {
                due("clause " + place + " binds, count() of " + (n + 1), x.count(), n < place ? 256 : 192);
                x.unclause();
            }
        }
    }

    private static void modelsAreOrderedByTheirNumbers() {
        says("models are ordered by their numbers");
        for (int[][] clauses : FORMULAS) {
            List<Integer> all = models(clauses);
            ModelCounter x = with(clauses);
            due("count()", x.count(), all.size());
            for (int k = 0; k < all.size(); k++) {
                due("model(" + k + ")", x.model(k), all.get(k));
            }
            due("model(" + all.size() + ")", x.model(all.size()), NONE);
            ModelCounter y = with(clauses);
            int less = 0;
            for (int a = 0; a <= 256; a++) {
                due("rank(" + a + ")", y.rank(a), less);
                less += all.contains(a) ? 1 : 0;
            }
        }
    }

    /** w(v, truth) such that no two variables have the same two weights. */
    private static int unlike(int v, boolean truth) {
        return truth ? v + 2 : 9 - v;
    }

    private static void setUnlikeWeights(ModelCounter x) {
        for (int v = 0; v < 8; v++) {
            x.weight(v, 0, unlike(v, false));
            x.weight(v, 1, unlike(v, true));
        }
    }

    private static int weightOf(int a) {
        int product = 1;
        for (int v = 0; v < 8; v++) {
            product *= unlike(v, isTrue(v, a));
        }
        return product;
    }

    private static ModelCounter only(int a) {
        ModelCounter x = new ModelCounter();
        for (int v = 0; v < 8; v++) {
            add(x, isTrue(v, a) ? 2 * v : 2 * v + 1);
        }
        return x;
    }

    private static void weightIsTheProductOverAllVariables() {
        says("the weight of an assignment is the product of w(v, 1) if v is true and w(v, 0) if not");
        for (int a = 0; a < 256; a++) {
            ModelCounter x = only(a);
            setUnlikeWeights(x);
            due("only " + a + ", weighted()", x.weighted(), weightOf(a));
            for (int v = 0; v < 8; v++) {
                due("only " + a + ", share(" + v + ", 0)", x.share(v, 0), isTrue(v, a) ? 0 : weightOf(a));
                due("only " + a + ", share(" + v + ", 1)", x.share(v, 1), isTrue(v, a) ? weightOf(a) : 0);
            }
        }
    }

    private static void sumsOverTheModels() {
        says("Sums of weights; over the models of each formula");
        for (int[][] clauses : FORMULAS) {
            ModelCounter x = with(clauses);
            setUnlikeWeights(x);
            due("weighted()", x.weighted(), models(clauses).stream().mapToInt(TermsTest::weightOf).sum());
            for (int v = 0; v < 8; v++) {
                int of = v;
                int whenTrue = models(clauses).stream().filter(a -> isTrue(of, a)).mapToInt(TermsTest::weightOf).sum();
                due("share(" + v + ", 1)", x.share(v, 1), whenTrue);
                due("share(" + v + ", 0)", x.share(v, 0), x.weighted() - whenTrue);
            }
        }
    }

    private static void setIsTheSumOfItsPowers() {
        says("A set of variables is the number that has 2 to the power v added up for its variables v");
        for (int set = 0; set < 256; set++) {
            ModelCounter x = new ModelCounter();
            ModelCounter y = new ModelCounter();
            int size = 0;
            for (int v = 0; v < 8; v++) {
                if (isTrue(v, set)) {
                    add(x, 2 * v);
                    add(y, 2 * v + 1);
                    size++;
                }
            }
            due("true are " + set + ", alwaysTrue()", x.alwaysTrue(), set);
            due("true are " + set + ", alwaysFalse()", x.alwaysFalse(), 0);
            due("true are " + set + ", idle()", x.idle(), 255 - set);
            due("true are " + set + ", leastTrue()", x.leastTrue(), size);
            due("false are " + set + ", alwaysTrue()", y.alwaysTrue(), 0);
            due("false are " + set + ", alwaysFalse()", y.alwaysFalse(), set);
            due("false are " + set + ", idle()", y.idle(), 255 - set);
            due("false are " + set + ", leastTrue()", y.leastTrue(), 0);
        }
    }

    private static void everySetWithEveryTruths() {
        says("The variables of set have the truths that they have in assignment number truths");
        int[][] clauses = FORMULAS[3];
        List<Integer> all = models(clauses);
        for (int set = 0; set < 256; set++) {
            ModelCounter x = with(clauses);
            for (int truths = 0; truths < 256; truths++) {
                int found = 0;
                for (int a : all) {
                    boolean same = true;
                    for (int v = 0; v < 8; v++) {
                        same = same && (!isTrue(v, set) || isTrue(v, a) == isTrue(v, truths));
                    }
                    found += same ? 1 : 0;
                }
                due("countWith(" + set + ", " + truths + ")", x.countWith(set, truths), found);
            }
        }
    }

    /** What every question about the models answers, but for the two about weights. */
    private static List<Integer> answers(ModelCounter x) {
        List<Integer> all = new ArrayList<>();
        for (int a = 0; a < 256; a += 5) {
            all.add(x.isModel(a) ? 1 : 0);
            all.add(x.rank(a));
            all.add(x.model(a));
            all.add(x.countWith(a, 255 - a));
            all.add(x.countWith(165, a));
        }
        for (int k = 0; k <= 8; k++) {
            all.add(x.countSize(k));
        }
        all.add(x.clauses());
        all.add(x.count());
        all.add(x.alwaysTrue());
        all.add(x.alwaysFalse());
        all.add(x.idle());
        all.add(x.leastTrue());
        return all;
    }

    private static List<Integer> weightAnswers(ModelCounter x) {
        List<Integer> all = new ArrayList<>();
        all.add(x.weighted());
        for (int v = 0; v < 8; v++) {
            all.add(x.share(v, 0));
            all.add(x.share(v, 1));
        }
        return all;
    }

    private static void same(String told, List<Integer> got, List<Integer> want) {
        if (!got.equals(want)) {
            wrong++;
            System.out.println("[" + sentence + "] " + told + ": answers " + got + ", due are " + want);
        }
    }

    private static void clauseBeingMadeHasNoSay() {
        says("makes all clauses true; the clause being made is not one of them");
        for (int[][] clauses : FORMULAS) {
            for (int[] making : new int[][] {c(0), c(15, 15), c(3, 5, 7), c(8, 9, 10)}) {
                ModelCounter x = with(clauses);
                for (int l : making) {
                    x.literal(l);
                }
                same("models", answers(x), answers(with(clauses)));
                ModelCounter y = with(clauses);
                for (int l : making) {
                    y.literal(l);
                }
                same("weights", weightAnswers(y), weightAnswers(with(clauses)));
            }
        }
    }

    private static void weightsHaveNoSayInNumbers() {
        says("A MODEL is an assignment that makes all clauses true; whatever it weighs");
        for (int[][] clauses : FORMULAS) {
            ModelCounter x = with(clauses);
            setUnlikeWeights(x);
            same("unlike weights", answers(x), answers(with(clauses)));
            ModelCounter y = with(clauses);
            for (int v = 0; v < 8; v++) {
                y.weight(v, 0, 0);
                y.weight(v, 1, 0);
            }
            same("weights of 0", answers(y), answers(with(clauses)));
        }
    }

    private static int[] turned(int[] literals) {
        int[] back = new int[literals.length];
        for (int i = 0; i < back.length; i++) {
            back[i] = literals[literals.length - 1 - i];
        }
        return back;
    }

    private static void orderOfClausesHasNoSay() {
        says("all clauses; at least one of its literals; in whatever order they came");
        for (int[][] clauses : FORMULAS) {
            ModelCounter x = new ModelCounter();
            for (int n = clauses.length - 1; n >= 0; n--) {
                add(x, turned(clauses[n]));
            }
            same("turned round", answers(x), answers(with(clauses)));
            ModelCounter y = new ModelCounter();
            for (int n = clauses.length - 1; n >= 0; n--) {
                add(y, turned(clauses[n]));
            }
            same("turned round, weights", weightAnswers(y), weightAnswers(with(clauses)));
        }
    }

    private static void changedFormulaIsAskedAnew() {
        says("A MODEL is an assignment that makes all clauses true; those that there are now");
        for (int[][] clauses : FORMULAS) {
            ModelCounter x = new ModelCounter();
            List<int[]> now = new ArrayList<>();
            for (int[] literals : clauses) {
                add(x, literals);
                now.add(literals);
                asked(x, now);
            }
            while (!now.isEmpty()) {
                x.unclause();
                now.remove(now.size() - 1);
                asked(x, now);
            }
        }
    }

    private static void asked(ModelCounter x, List<int[]> now) {
        List<Integer> all = models(now.toArray(new int[0][]));
        String told = now.size() + " clauses, ";
        int inAll = 255;
        int inNone = 255;
        int least = 9;
        for (int a : all) {
            inAll &= a;
            inNone &= 255 - a;
            least = Math.min(least, Integer.bitCount(a));
        }
        due(told + "count()", x.count(), all.size());
        due(told + "weighted()", x.weighted(), all.size());
        due(told + "model(0)", x.model(0), all.isEmpty() ? NONE : all.get(0));
        due(told + "alwaysTrue()", x.alwaysTrue(), all.isEmpty() ? NONE : inAll);
        due(told + "alwaysFalse()", x.alwaysFalse(), all.isEmpty() ? NONE : inNone);
        due(told + "leastTrue()", x.leastTrue(), all.isEmpty() ? NONE : least);
        int idle = 0;
        for (int v = 0; v < 8; v++) {
            int power = 1 << v;
            idle += all.stream().allMatch(a -> all.contains(a ^ power)) ? power : 0;
        }
        due(told + "idle()", x.idle(), idle);
    }

    private static void changedWeightIsWeighedAnew() {
        says("Variable v has the WEIGHTS w(v, 0) and w(v, 1); those that it has now");
        ModelCounter x = with(c(0, 2));
        due("weighted()", x.weighted(), 192);
        due("share(0, 1)", x.share(0, 1), 128);
        x.weight(0, 1, 4);
        due("w(0, 1) is 4, weighted()", x.weighted(), 4 * 128 + 64);
        due("w(0, 1) is 4, share(0, 1)", x.share(0, 1), 4 * 128);
        due("w(0, 1) is 4, share(0, 0)", x.share(0, 0), 64);
        x.weight(0, 1, 0);
        due("w(0, 1) is 0, weighted()", x.weighted(), 64);
        x.weight(0, 1, 1);
        due("w(0, 1) is 1 again, weighted()", x.weighted(), 192);
        x.unclause();
        x.weight(7, 0, 3);
        due("w(7, 0) is 3, no clause, weighted()", x.weighted(), 512);
    }

    private static void objectsAreApart() {
        says("An object; what is done to one of them is not seen in another");
        for (int[][] clauses : FORMULAS) {
            ModelCounter x = new ModelCounter();
            ModelCounter y = new ModelCounter();
            for (int[] literals : clauses) {
                for (int l : literals) {
                    x.literal(l);
                    y.literal(l ^ 1);
                }
                x.clause();
                y.clause();
                y.weight(literals.length, 1, 5);
            }
            same("beside another one", answers(x), answers(with(clauses)));
            due("beside another one, weighted()", x.weighted(), x.count());
        }
    }

    public static void main(String[] args) {
        clauseIsTrueIfOneLiteralIs();
        modelMakesAllClausesTrue();
        modelsAreOrderedByTheirNumbers();
        weightIsTheProductOverAllVariables();
        sumsOverTheModels();
        setIsTheSumOfItsPowers();
        everySetWithEveryTruths();
        clauseBeingMadeHasNoSay();
        weightsHaveNoSayInNumbers();
        orderOfClausesHasNoSay();
        changedFormulaIsAskedAnew();
        changedWeightIsWeighedAnew();
        objectsAreApart();
        System.out.println(wrong == 0 ? "all answers are as due" : wrong + " answers are not as due");
        if (wrong != 0) {
            System.exit(1);
        }
    }
}
