/**
 * Formulas of clauses over eight variables: how many assignments make them
 * true, which one is the k-th, how heavy they are all together.
 */
public final class ModelCounter {
    public static final int BAD_ARG = -1;
    public static final int FULL = -2;
    public static final int NONE = -4;

    private static final int VARIABLES = 8;
    private static final int LITERALS = 16;
    private static final int ASSIGNMENTS = 256;
    private static final int ALL_VARIABLES = 255;
    private static final int MAX_CLAUSES = 14;
    private static final int MAX_CLAUSE_LITERALS = 3;
    private static final int MAX_WEIGHT = 9;

    // No answer depends on the order or the repetition of a clause's literals,
    // so a clause is held as the set of them: bit l stands for literal l.
    private final int[] clauseLiterals = new int[MAX_CLAUSES];
    private int clauseCount;

    // The size is held beside the set, as a repeated literal counts again.
    private int draftLiterals;
    private int draftSize;

    // w(v, b) stands at 2 v + b.
    private final int[] weights = new int[LITERALS];

    public ModelCounter() {
        clauseCount = 0;
        draftLiterals = 0;
        draftSize = 0;
        for (int i = 0; i < LITERALS; i++) {
            weights[i] = 1;
        }
    }

    public int literal(int l) {
        if (l < 0 || l >= LITERALS) {
            return BAD_ARG;
        }
        if (draftSize >= MAX_CLAUSE_LITERALS) {
            return FULL;
        }
        draftLiterals |= 1 << l;
        draftSize++;
        return draftSize;
    }

    public void scrap() {
        draftLiterals = 0;
        draftSize = 0;
    }

    public int clause() {
        if (clauseCount >= MAX_CLAUSES) {
            return FULL;
        }
        int number = clauseCount;
        clauseLiterals[number] = draftLiterals;
        clauseCount++;
        scrap();
        return number;
    }

    public int unclause() {
        if (clauseCount <= 0) {
            return NONE;
        }
        clauseCount--;
        return clauseCount;
    }

    public int clauses() {
        return clauseCount;
    }

    public int weight(int v, int b, int w) {
        if (!isVariable(v) || !isTruth(b) || w < 0 || w > MAX_WEIGHT) {
            return BAD_ARG;
        }
        int before = weights[2 * v + b];
        weights[2 * v + b] = w;
        return before;
    }

    public int count() {
        return modelsBelow(ASSIGNMENTS);
    }

    public int countWith(int set, int truths) {
        if (!isAssignment(set) || !isAssignment(truths)) {
            return BAD_ARG;
        }
        return modelsMatching(set, truths);
    }

    public int countSize(int k) {
        int found = 0;
        for (int a = 0; a < ASSIGNMENTS; a++) {
            if (trueVariables(a) == k && satisfies(a)) {
                found++;
            }
        }
        return found;
    }

    public int weighted() {
        return weightMatching(0, 0);
    }

    public int share(int v, int b) {
        if (!isVariable(v) || !isTruth(b)) {
            return 0;
        }
        return weightMatching(1 << v, b << v);
    }

    public int model(int k) {
        if (k < 0) {
            return NONE;
        }
        int before = 0;
        for (int a = 0; a < ASSIGNMENTS; a++) {
            if (satisfies(a)) {
                if (before == k) {
                    return a;
                }
                before++;
            }
        }
        return NONE;
    }

    public int rank(int a) {
        if (a < 0 || a > ASSIGNMENTS) {
            return BAD_ARG;
        }
        return modelsBelow(a);
    }

    public boolean isModel(int a) {
        return isAssignment(a) && satisfies(a);
    }

    public int alwaysTrue() {
        boolean found = false;
        int trueSoFar = ALL_VARIABLES;
        for (int a = 0; a < ASSIGNMENTS; a++) {
            if (satisfies(a)) {
                found = true;
                trueSoFar &= a;
            }
        }
        return found ? trueSoFar : NONE;
    }

    public int alwaysFalse() {
        boolean found = false;
        int falseSoFar = ALL_VARIABLES;
        for (int a = 0; a < ASSIGNMENTS; a++) {
            if (satisfies(a)) {
                found = true;
                falseSoFar &= ~a;
            }
        }
        return found ? falseSoFar : NONE;
    }

    public int idle() {
        int set = 0;
        for (int v = 0; v < VARIABLES; v++) {
            if (isIdle(v)) {
                set |= 1 << v;
            }
        }
        return set;
    }

    public int leastTrue() {
        int least = NONE;
        for (int a = 0; a < ASSIGNMENTS; a++) {
            if (satisfies(a)) {
                int size = trueVariables(a);
                if (least == NONE || size < least) {
                    least = size;
                }
            }
        }
        return least;
    }

    private static boolean isVariable(int v) {
        return v >= 0 && v < VARIABLES;
    }

    private static boolean isTruth(int b) {
        return b == 0 || b == 1;
    }

    // Sets of variables have the same range, so they are tested by this too.
    private static boolean isAssignment(int a) {
        return a >= 0 && a < ASSIGNMENTS;
    }

    private static int trueVariables(int a) {
        int size = 0;
        for (int v = 0; v < VARIABLES; v++) {
            size += (a >> v) & 1;
        }
        return size;
    }

    private static int trueLiterals(int a) {
        int literals = 0;
        for (int v = 0; v < VARIABLES; v++) {
            int truth = (a >> v) & 1;
            literals |= 1 << (2 * v + 1 - truth);
        }
        return literals;
    }

    private boolean satisfies(int a) {
        int literals = trueLiterals(a);
        // The array's bound stands beside the count so that the index is seen to fit.
        for (int c = 0; c < MAX_CLAUSES && c < clauseCount; c++) {
            if ((clauseLiterals[c] & literals) == 0) {
                return false;
            }
        }
        return true;
    }

    private int modelsBelow(int bound) {
        int found = 0;
        for (int a = 0; a < bound; a++) {
            if (satisfies(a)) {
                found++;
            }
        }
        return found;
    }

    private static boolean agrees(int a, int set, int truths) {
        return ((a ^ truths) & set) == 0;
    }

    private int modelsMatching(int set, int truths) {
        int found = 0;
        for (int a = 0; a < ASSIGNMENTS; a++) {
            if (agrees(a, set, truths) && satisfies(a)) {
                found++;
            }
        }
        return found;
    }

    // A product is at most 9 to the power 8, which an int holds; only the sum can wrap.
    private int weightOf(int a) {
        int product = 1;
        for (int v = 0; v < VARIABLES; v++) {
            product *= weights[2 * v + ((a >> v) & 1)];
        }
        return product;
    }

    private int weightMatching(int set, int truths) {
        int sum = 0;
        for (int a = 0; a < ASSIGNMENTS; a++) {
            if (agrees(a, set, truths) && satisfies(a)) {
                sum += weightOf(a);
            }
        }
        return sum;
    }

    // Without a model nothing speaks against v, which gives the 255 that idle owes then.
    private boolean isIdle(int v) {
        for (int a = 0; a < ASSIGNMENTS; a++) {
            if (satisfies(a) && !satisfies(a ^ (1 << v))) {
                return false;
            }
        }
        return true;
    }
}
