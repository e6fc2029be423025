/** For each promise of the document: ordinary inputs, the edges it names, and wrong inputs. */
public final class PromiseTest {
    private static final int BAD_ARG = -1;
    private static final int FULL = -2;
    private static final int NONE = -4;
    private static final int[] FAR = {Integer.MIN_VALUE, -1000, 1000, Integer.MAX_VALUE};

    private static int wrong = 0;

    private static void due(String call, int got, int want) {
        if (got != want) {
            wrong++;
            System.out.println(call + " answered " + got + ", due is " + want);
        }
    }

    private static void due(String call, boolean got, boolean want) {
        due(call, got ? 1 : 0, want ? 1 : 0);
    }

    private static ModelCounter with(int[]... clauses) {
        ModelCounter x = new ModelCounter();
        for (int[] literals : clauses) {
            add(x, literals);
        }
        return x;
    }

    private static int add(ModelCounter x, int... literals) {
        for (int l : literals) {
            x.literal(l);
        }
        return x.clause();
    }

    private static int[] c(int... literals) {
        return literals;
    }

    private static void constants() {
        due("BAD_ARG", ModelCounter.BAD_ARG, BAD_ARG);
        due("FULL", ModelCounter.FULL, FULL);
        due("NONE", ModelCounter.NONE, NONE);
    }

    /** The run of calls that README.md shows. */
    private static void readme() {
        ModelCounter x = new ModelCounter();
        due("README: literal(0)", x.literal(0), 1);
        due("README: literal(3)", x.literal(3), 2);
        due("README: clause()", x.clause(), 0);
        due("README: count()", x.count(), 192);
        due("README: model(0)", x.model(0), 0);
        due("README: rank(128)", x.rank(128), 96);
        due("README: countWith(1, 1)", x.countWith(1, 1), 128);
        due("README: idle()", x.idle(), 252);
        due("README: weight(0, 1, 5)", x.weight(0, 1, 5), 1);
        due("README: weighted()", x.weighted(), 704);
        due("README: unclause()", x.unclause(), 0);
    }

    private static void promise1NewObject() {
        ModelCounter x = new ModelCounter();
        due("1: clauses()", x.clauses(), 0);
        due("1: unclause()", x.unclause(), NONE);
        due("1: count()", x.count(), 256);
        due("1: literal(0)", x.literal(0), 1);
        ModelCounter y = new ModelCounter();
        due("1: an empty clause's number", y.clause(), 0);
        due("1: count() with an empty clause", y.count(), 0);
        due("1: two objects share no clause", x.clauses(), 0);
        ModelCounter z = new ModelCounter();
        for (int v = 0; v < 8; v++) {
            due("1: first w(" + v + ", 0)", z.weight(v, 0, 2), 1);
            due("1: first w(" + v + ", 1)", z.weight(v, 1, 3), 1);
        }
    }

    private static void promise2Literal() {
        for (int l = 0; l < 16; l++) {
            ModelCounter x = new ModelCounter();
            due("2: literal(" + l + ")", x.literal(l), 1);
            x.clause();
            for (int a = 0; a < 256; a++) {
                boolean truth = (a >> (l / 2)) % 2 == 1;
                due("2: clause of " + l + ", isModel(" + a + ")", x.isModel(a), truth == (l % 2 == 0));
            }
        }
        ModelCounter x = new ModelCounter();
        due("2: literal(-1)", x.literal(-1), BAD_ARG);
        due("2: literal(16)", x.literal(16), BAD_ARG);
        due("2: first", x.literal(15), 1);
        due("2: repeated", x.literal(15), 2);
        due("2: third", x.literal(0), 3);
        due("2: fourth", x.literal(4), FULL);
        due("2: range is tested before room, 16", x.literal(16), BAD_ARG);
        due("2: range is tested before room, -1", x.literal(-1), BAD_ARG);
        for (int l : FAR) {
            due("2: literal(" + l + ")", x.literal(l), BAD_ARG);
        }
        x.clause();
        due("2: refused literals are not in the clause", x.count(), 192);
        due("2: refused literals are not in the clause, 4", x.isModel(128 + 2 * 2), false);
        ModelCounter y = new ModelCounter();
        for (int l : new int[] {-1, 16, 17, 32, -16, Integer.MIN_VALUE}) {
            y.literal(l);
        }
        y.clause();
        due("2: only refused literals, count()", y.count(), 0);
    }

    private static void promise3Scrap() {
        ModelCounter x = new ModelCounter();
        x.scrap();
        due("3: literal after scrap of nothing", x.literal(0), 1);
        x.literal(2);
        x.literal(4);
        x.scrap();
        due("3: literal after scrap of a full one", x.literal(6), 1);
        due("3: scrap adds no clause", x.clauses(), 0);
        x.clause();
        due("3: scrapped literals are gone", x.alwaysTrue(), 8);
        x.literal(0);
        x.scrap();
        due("3: scrap keeps the clauses", x.clauses(), 1);
        x.clause();
        due("3: a scrapped clause has no literal", x.count(), 0);
    }

    private static void promise4Clause() {
        ModelCounter x = new ModelCounter();
        for (int n = 0; n < 14; n++) {
            due("4: clause() number " + n, add(x, 0), n);
        }
        due("4: literal is taken beside 14 clauses", x.literal(3), 1);
        due("4: clause() beside 14", x.clause(), FULL);
        due("4: clauses() after FULL", x.clauses(), 14);
        due("4: count() after FULL", x.count(), 128);
        due("4: the clause being made stays after FULL", x.literal(5), 2);
        x.unclause();
        due("4: room again", x.clause(), 13);
        due("4: what FULL kept is in it", x.count(), 128 - 32);
        due("4: the next one has no literal", x.literal(0), 1);
        ModelCounter y = with(c(0, 2, 4));
        due("4: next clause is empty", y.clause(), 1);
        due("4: an empty clause is never true", y.count(), 0);
        ModelCounter z = new ModelCounter();
        for (int n = 0; n < 13; n++) {
            add(z, 0);
        }
        due("4: the 14th", add(z, 3), 13);
        due("4: the 14th counts", z.count(), 64);
    }

    private static void promise5Unclause() {
        ModelCounter x = with(c(0), c(2), c(4));
        x.literal(6);
        due("5: unclause() of 3", x.unclause(), 2);
        due("5: count() then", x.count(), 64);
        due("5: alwaysTrue() then", x.alwaysTrue(), 3);
        due("5: the clause being made stays", x.literal(8), 2);
        due("5: its number is used again", x.clause(), 2);
        due("5: count() with it", x.count(), 48);
        due("5: unclause()", x.unclause(), 2);
        due("5: unclause()", x.unclause(), 1);
        due("5: unclause()", x.unclause(), 0);
        due("5: unclause() of none", x.unclause(), NONE);
        due("5: clauses() after NONE", x.clauses(), 0);
        due("5: count() after NONE", x.count(), 256);
        due("5: clause() after NONE", add(x, 1), 0);
    }

    private static void promise6Clauses() {
        ModelCounter x = new ModelCounter();
        for (int n = 0; n < 14; n++) {
            due("6: clauses()", x.clauses(), n);
            x.literal(n);
            due("6: clauses() while one is being made", x.clauses(), n);
            x.clause();
        }
        due("6: clauses()", x.clauses(), 14);
        x.unclause();
        due("6: clauses() after unclause()", x.clauses(), 13);
    }

    private static void promise7Weight() {
        ModelCounter x = new ModelCounter();
        for (int v = 0; v < 8; v++) {
            due("7: weight(" + v + ", 0, .)", x.weight(v, 0, v), 1);
            due("7: weight(" + v + ", 1, .)", x.weight(v, 1, 9 - v), 1);
        }
        due("7: weight(-1, 0, 1)", x.weight(-1, 0, 1), BAD_ARG);
        due("7: weight(8, 0, 1)", x.weight(8, 0, 1), BAD_ARG);
        due("7: weight(0, -1, 1)", x.weight(0, -1, 1), BAD_ARG);
        due("7: weight(1, -1, 1)", x.weight(1, -1, 1), BAD_ARG);
        due("7: weight(0, 2, 1)", x.weight(0, 2, 1), BAD_ARG);
        due("7: weight(0, 0, -1)", x.weight(0, 0, -1), BAD_ARG);
        due("7: weight(0, 0, 10)", x.weight(0, 0, 10), BAD_ARG);
        for (int n : FAR) {
            due("7: weight(" + n + ", 0, 1)", x.weight(n, 0, 1), BAD_ARG);
            due("7: weight(0, " + n + ", 1)", x.weight(0, n, 1), BAD_ARG);
            due("7: weight(0, 0, " + n + ")", x.weight(0, 0, n), BAD_ARG);
        }
        for (int v = 0; v < 8; v++) {
            due("7: weight(" + v + ", 0, 9) again", x.weight(v, 0, 9), v);
            due("7: weight(" + v + ", 1, 0) again", x.weight(v, 1, 0), 9 - v);
        }
        due("7: weight to 9 was taken", x.weight(3, 0, 1), 9);
        due("7: weight to 0 was taken", x.weight(3, 1, 1), 0);
    }

    private static void promise8Count() {
        due("8: no clause", with().count(), 256);
        due("8: one of three", with(c(0, 2, 4)).count(), 224);
        due("8: v or not v", with(c(6, 7)).count(), 256);
        due("8: v and not v", with(c(6), c(7)).count(), 0);
        due("8: repeated literal", with(c(6, 6, 6)).count(), 128);
        due("8: one model", with(c(0), c(2), c(4), c(6), c(8), c(10), c(12), c(14)).count(), 1);
        due("8: empty clause first", with(c(), c(0)).count(), 0);
        ModelCounter x = with(c(0));
        x.literal(2);
        due("8: the clause being made does not bind", x.count(), 128);
        x.weight(0, 1, 0);
        due("8: weights do not bind", x.count(), 128);
    }

    private static void promise9CountWith() {
        ModelCounter x = with(c(0, 2), c(15));
        due("9: countWith(0, 0)", x.countWith(0, 0), 96);
        due("9: countWith(0, 255)", x.countWith(0, 255), 96);
        due("9: countWith(1, 0)", x.countWith(1, 0), 32);
        due("9: countWith(1, 1)", x.countWith(1, 1), 64);
        due("9: truths outside of set do not bind", x.countWith(1, 254), 32);
        due("9: countWith(128, 128)", x.countWith(128, 128), 0);
        due("9: countWith(128, 127)", x.countWith(128, 127), 96);
        due("9: countWith(3, 0)", x.countWith(3, 0), 0);
        due("9: countWith(255, 1)", x.countWith(255, 1), 1);
        due("9: countWith(255, 4)", x.countWith(255, 4), 0);
        due("9: countWith(255, 0)", with().countWith(255, 0), 1);
        due("9: countWith(255, 255)", with().countWith(255, 255), 1);
        due("9: countWith(256, 0)", x.countWith(256, 0), BAD_ARG);
        due("9: countWith(0, 256)", x.countWith(0, 256), BAD_ARG);
        due("9: countWith(-1, 0)", x.countWith(-1, 0), BAD_ARG);
        due("9: countWith(0, -1)", x.countWith(0, -1), BAD_ARG);
        for (int n : FAR) {
            due("9: countWith(" + n + ", 0)", x.countWith(n, 0), BAD_ARG);
            due("9: countWith(0, " + n + ")", x.countWith(0, n), BAD_ARG);
        }
    }

    private static void promise10CountSize() {
        int[] all = {1, 8, 28, 56, 70, 56, 28, 8, 1};
        int[] withTrue0 = {0, 1, 7, 21, 35, 35, 21, 7, 1};
        for (int k = 0; k <= 8; k++) {
            due("10: countSize(" + k + ")", with().countSize(k), all[k]);
            due("10: countSize(" + k + ") with 0 true", with(c(0)).countSize(k), withTrue0[k]);
            due("10: countSize(" + k + ") without model", with(c()).countSize(k), 0);
        }
        due("10: countSize(-1)", with().countSize(-1), 0);
        due("10: countSize(9)", with().countSize(9), 0);
        for (int k : FAR) {
            due("10: countSize(" + k + ")", with().countSize(k), 0);
        }
    }

    private static void promise11Weighted() {
        due("11: all weights 1", with().weighted(), 256);
        due("11: no model", with(c()).weighted(), 0);
        ModelCounter x = with(c(0), c(3));
        x.weight(0, 1, 5);
        x.weight(0, 0, 7);
        x.weight(1, 0, 3);
        x.weight(1, 1, 9);
        due("11: w(0, 1) w(1, 0) 64", x.weighted(), 5 * 3 * 64);
        x.weight(1, 0, 0);
        due("11: a weight of 0", x.weighted(), 0);
        ModelCounter y = new ModelCounter();
        for (int v = 0; v < 8; v++) {
            y.weight(v, 0, 9);
            y.weight(v, 1, 9);
        }
        due("11: 256 times 9 to the power 8 wraps", y.weighted(), (int) (256L * 43046721L));
        add(y, 0);
        due("11: 128 times 9 to the power 8 wraps", y.weighted(), (int) (128L * 43046721L));
    }

    private static void promise12Share() {
        ModelCounter x = with(c(0, 2));
        x.weight(0, 0, 2);
        x.weight(0, 1, 3);
        x.weight(1, 0, 5);
        x.weight(1, 1, 7);
        due("12: share(0, 0)", x.share(0, 0), 2 * 7 * 64);
        due("12: share(0, 1)", x.share(0, 1), 3 * 12 * 64);
        due("12: share(1, 0)", x.share(1, 0), 5 * 3 * 64);
        due("12: share(1, 1)", x.share(1, 1), 7 * 5 * 64);
        due("12: share(7, 0)", x.share(7, 0), (2 * 7 + 3 * 12) * 32);
        due("12: share(7, 1)", x.share(7, 1), (2 * 7 + 3 * 12) * 32);
        due("12: share(-1, 0)", x.share(-1, 0), 0);
        due("12: share(8, 0)", x.share(8, 0), 0);
        due("12: share(0, -1)", x.share(0, -1), 0);
        due("12: share(0, 2)", x.share(0, 2), 0);
        for (int n : new int[] {-32, -31, 32, 33, 256, Integer.MIN_VALUE, Integer.MAX_VALUE}) {
            due("12: share(" + n + ", 0)", x.share(n, 0), 0);
            due("12: share(" + n + ", 1)", x.share(n, 1), 0);
            due("12: share(0, " + n + ")", x.share(0, n), 0);
            due("12: share(7, " + n + ")", x.share(7, n), 0);
        }
        due("12: no model", with(c()).share(0, 1), 0);
        ModelCounter y = new ModelCounter();
        for (int v = 0; v < 8; v++) {
            y.weight(v, 0, 9);
            y.weight(v, 1, 9);
        }
        due("12: 128 times 9 to the power 8 wraps", y.share(4, 1), (int) (128L * 43046721L));
    }

    private static void promise13Model() {
        ModelCounter x = with(c(0), c(15));
        for (int k = 0; k < 64; k++) {
            due("13: model(" + k + ")", x.model(k), 2 * k + 1);
        }
        due("13: model(64) of 64", x.model(64), NONE);
        due("13: model(-1)", x.model(-1), NONE);
        for (int k : FAR) {
            due("13: model(" + k + ")", x.model(k), NONE);
        }
        due("13: model(0) of all", with().model(0), 0);
        due("13: model(255) of all", with().model(255), 255);
        due("13: model(256) of all", with().model(256), NONE);
        due("13: model(0) of none", with(c()).model(0), NONE);
    }

    private static void promise14Rank() {
        ModelCounter x = with(c(0));
        for (int a = 0; a <= 256; a++) {
            due("14: rank(" + a + ")", x.rank(a), a / 2);
            due("14: rank(" + a + ") of all", with().rank(a), a);
            due("14: rank(" + a + ") of none", with(c()).rank(a), 0);
        }
        due("14: rank(-1)", x.rank(-1), BAD_ARG);
        due("14: rank(257)", x.rank(257), BAD_ARG);
        for (int a : FAR) {
            due("14: rank(" + a + ")", x.rank(a), BAD_ARG);
        }
    }

    private static void promise15IsModel() {
        ModelCounter x = with(c(14, 1));
        for (int a = 0; a < 256; a++) {
            due("15: isModel(" + a + ")", x.isModel(a), a >= 128 || a % 2 == 0);
            due("15: isModel(" + a + ") of all", with().isModel(a), true);
            due("15: isModel(" + a + ") of none", with(c()).isModel(a), false);
        }
        due("15: isModel(-1)", with().isModel(-1), false);
        due("15: isModel(256)", with().isModel(256), false);
        for (int a : FAR) {
            due("15: isModel(" + a + ")", with().isModel(a), false);
        }
    }

    private static void promise16AlwaysTrue() {
        due("16: no clause", with().alwaysTrue(), 0);
        due("16: no model", with(c()).alwaysTrue(), NONE);
        due("16: two", with(c(0), c(14)).alwaysTrue(), 129);
        due("16: false ones are not in it", with(c(1), c(14)).alwaysTrue(), 128);
        due("16: by consequence", with(c(0), c(1, 4), c(5, 8)).alwaysTrue(), 21);
        due("16: all false", with(c(1), c(3), c(5), c(7), c(9), c(11), c(13), c(15)).alwaysTrue(), 0);
        due("16: all", with(c(0), c(2), c(4), c(6), c(8), c(10), c(12), c(14)).alwaysTrue(), 255);
    }

    private static void promise17AlwaysFalse() {
        due("17: no clause", with().alwaysFalse(), 0);
        due("17: no model", with(c()).alwaysFalse(), NONE);
        due("17: two", with(c(1), c(15)).alwaysFalse(), 129);
        due("17: true ones are not in it", with(c(0), c(15)).alwaysFalse(), 128);
        due("17: by consequence", with(c(1), c(0, 5), c(4, 9)).alwaysFalse(), 21);
        due("17: all true", with(c(0), c(2), c(4), c(6), c(8), c(10), c(12), c(14)).alwaysFalse(), 0);
        due("17: all", with(c(1), c(3), c(5), c(7), c(9), c(11), c(13), c(15)).alwaysFalse(), 255);
    }

    private static void promise18Idle() {
        due("18: no clause", with().idle(), 255);
        due("18: no model", with(c(0), c(1)).idle(), 255);
        due("18: one fixed", with(c(0)).idle(), 254);
        due("18: the last fixed", with(c(15)).idle(), 127);
        due("18: a clause of three", with(c(2, 5, 8)).idle(), 255 - 22);
        due("18: in a clause that is always true", with(c(2, 3, 8)).idle(), 255);
        due("18: in clauses that together leave it free", with(c(0, 2), c(1, 2)).idle(), 253);
        due("18: one model, all false", with(c(1), c(3), c(5), c(7), c(9), c(11), c(13), c(15)).idle(), 0);
        due("18: one model", with(c(0), c(2), c(4), c(6), c(8), c(10), c(12), c(14)).idle(), 0);
    }

    private static void promise19LeastTrue() {
        due("19: no clause", with().leastTrue(), 0);
        due("19: no model", with(c()).leastTrue(), NONE);
        due("19: one of three", with(c(0, 6, 14)).leastTrue(), 1);
        due("19: the least is not the first", with(c(0, 14), c(2, 14), c(4, 14)).leastTrue(), 1);
        due("19: two that are apart", with(c(0, 2), c(4, 6)).leastTrue(), 2);
        due("19: all", with(c(0), c(2), c(4), c(6), c(8), c(10), c(12), c(14)).leastTrue(), 8);
    }

    public static void main(String[] args) {
        constants();
        readme();
        promise1NewObject();
        promise2Literal();
        promise3Scrap();
        promise4Clause();
        promise5Unclause();
        promise6Clauses();
        promise7Weight();
        promise8Count();
        promise9CountWith();
        promise10CountSize();
        promise11Weighted();
        promise12Share();
        promise13Model();
        promise14Rank();
        promise15IsModel();
        promise16AlwaysTrue();
        promise17AlwaysFalse();
        promise18Idle();
        promise19LeastTrue();
        System.out.println(wrong == 0 ? "all answers are as due" : wrong + " answers are not as due");
        if (wrong != 0) {
            System.exit(1);
        }
    }
}
