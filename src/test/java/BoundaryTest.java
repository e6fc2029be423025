/**
 * One test for each sentence of the document that names a boundary case. It is
 * told by the promise's number and the sentence; a call that is refused is
 * tried in several states, and each of them is compared before and after.
 */
public final class BoundaryTest {
    private static final int BAD_ARG = -1;
    private static final int FULL = -2;
    private static final int NONE = -4;
    private static final int LEAST = Integer.MIN_VALUE;
    private static final int GREATEST = Integer.MAX_VALUE;
    /** 9 to the power 8, the weight of an assignment when all weights are 9. */
    private static final int HEAVIEST = 43046721;

    private static int wrong = 0;
    private static String sentence = "";

    private interface State {
        ModelCounter make();
    }

    private interface Call {
        int on(ModelCounter x);
    }

    /** The states in which refused calls are tried. */
    private static final State[] STATES = {
        ModelCounter::new, BoundaryTest::busy, BoundaryTest::full, BoundaryTest::hopeless
    };

    private static ModelCounter busy() {
        ModelCounter x = with(c(0, 2, 5), c(9), c(14, 1));
        for (int v = 0; v < 8; v++) {
            x.weight(v, 0, (3 * v + 2) % 10);
            x.weight(v, 1, (7 * v + 5) % 10);
        }
        x.literal(6);
        x.literal(13);
        return x;
    }

    /** 14 clauses, and 3 literals in the clause being made. */
    private static ModelCounter full() {
        ModelCounter x = allWeights(9);
        for (int n = 0; n < 14; n++) {
            add(x, n, (n + 3) % 16, (n + 6) % 16);
        }
        x.literal(1);
        x.literal(8);
        x.literal(15);
        return x;
    }

    /** A clause without literals among others: there is no model. */
    private static ModelCounter hopeless() {
        ModelCounter x = with(c(0), c(), c(3));
        x.weight(7, 1, 0);
        x.literal(4);
        return x;
    }

    private static ModelCounter with(int[]... clauses) {
        ModelCounter x = new ModelCounter();
        for (int[] literals : clauses) {
            add(x, literals);
        }
        return x;
    }

    private static int add(ModelCounter x, int... literals) {
        for (int l : literals) {
            x.literal(l);
        }
        return x.clause();
    }

    private static int[] c(int... literals) {
        return literals;
    }

    private static ModelCounter allWeights(int w) {
        ModelCounter x = new ModelCounter();
        setAllWeights(x, w);
        return x;
    }

    private static void setAllWeights(ModelCounter x, int w) {
        for (int v = 0; v < 8; v++) {
            x.weight(v, 0, w);
            x.weight(v, 1, w);
        }
    }

    /** The one model is a. */
    private static ModelCounter only(int a) {
        ModelCounter x = new ModelCounter();
        for (int v = 0; v < 8; v++) {
            add(x, 2 * v + 1 - (a >> v) % 2);
        }
        return x;
    }

    private static void says(String words) {
        sentence = words;
    }

    private static void fault(String told) {
        wrong++;
        System.out.println("[" + sentence + "] " + told);
    }

    private static void due(String call, int got, int want) {
        if (got != want) {
            fault(call + " answered " + got + ", due is " + want);
        }
    }

    private static void due(String call, boolean got, boolean want) {
        if (got != want) {
            fault(call + " answered " + got + ", due is " + want);
        }
    }

    /** The call answers the code and changes nothing, whatever the state. */
    private static void refused(String told, int code, Call call) {
        for (State state : STATES) {
            refusedIn(state, told, code, call);
        }
    }

    private static void refusedIn(State state, String told, int code, Call call) {
        due(told, call.on(state.make()), code);
        unchangedBy(state, told, call);
    }

    private static void unchangedBy(State state, String told, Call call) {
        String before = all(state, x -> 0);
        String after = all(state, call);
        if (!before.equals(after)) {
            fault(told + " changed " + before + " into " + after);
        }
    }

    /**
     * All that can be seen of an object after the call. Looking takes many calls
     * and some of them change the object, so each part is seen on one of its own.
     */
    private static String all(State state, Call call) {
        StringBuilder seen = new StringBuilder();
        int clauses = after(state, call).clauses();
        seen.append(clauses).append(" clauses");
        for (int gone = 0; gone < clauses; gone++) {
            seen.append(", ").append(models(without(gone, after(state, call))));
        }
        seen.append("; being made ").append(after(state, call).literal(0));
        ModelCounter made = without(clauses, after(state, call));
        made.clause();
        seen.append(", ").append(models(made)).append("; weights");
        ModelCounter weighed = after(state, call);
        for (int v = 0; v < 8; v++) {
            seen.append(' ').append(weighed.weight(v, 0, 0)).append(weighed.weight(v, 1, 0));
        }
        return seen.toString();
    }

    private static ModelCounter after(State state, Call call) {
        ModelCounter x = state.make();
        call.on(x);
        return x;
    }

    private static ModelCounter without(int clauses, ModelCounter x) {
        for (int n = 0; n < clauses; n++) {
            x.unclause();
        }
        return x;
    }

    private static String models(ModelCounter x) {
        StringBuilder map = new StringBuilder();
        for (int digit = 0; digit < 64; digit++) {
            int four = 0;
            for (int a = 4 * digit; a < 4 * digit + 4; a++) {
                four = 2 * four + (x.isModel(a) ? 1 : 0);
            }
            map.append(Integer.toHexString(four));
        }
        return map.toString();
    }

    // ---- What it is, and Terms

    private static void the512thCallStillAnswers() {
        says("An object is used for at most 512 calls after it has been made");
        ModelCounter refusing = new ModelCounter();
        for (int n = 1; n < 512; n++) {
            due("call " + n + ", literal(16)", refusing.literal(16), BAD_ARG);
        }
        due("call 512, literal(15)", refusing.literal(15), 1);
        ModelCounter making = new ModelCounter();
        for (int n = 1; n < 512; n += 2) {
            due("call " + n + ", clause()", making.clause(), 0);
            due("call " + (n + 1) + ", unclause()", making.unclause(), 0);
        }
        ModelCounter weighing = new ModelCounter();
        for (int n = 1; n <= 512; n++) {
            due("call " + n + ", weight(7, 1, .)", weighing.weight(7, 1, n % 10), n == 1 ? 1 : (n - 1) % 10);
        }
        // Making its three clauses takes the first 9 calls.
        ModelCounter asking = with(c(0, 2, 5), c(9), c(14, 1));
        for (int n = 10; n < 512; n++) {
            asking.idle();
        }
        due("call 512, count()", asking.count(), 80);
        ModelCounter scrapping = new ModelCounter();
        for (int n = 1; n < 512; n += 2) {
            due("call " + n + ", literal(3)", scrapping.literal(3), 1);
            scrapping.scrap();
        }
    }

    private static void aClauseHas0To3Literals() {
        says("A CLAUSE is a list of 0 to 3 literals; it is true if at least one of them is");
        due("no literal, count()", with(c()).count(), 0);
        due("1 literal, count()", with(c(15)).count(), 128);
        due("2 literals, count()", with(c(15, 0)).count(), 192);
        due("3 literals, count()", with(c(15, 0, 7)).count(), 224);
        ModelCounter x = with(c(0, 2, 4));
        for (int a = 0; a < 8; a++) {
            due("isModel(" + a + ")", x.isModel(a), a != 0);
        }
    }

    private static void aClauseWithoutLiteralsIsNeverTrue() {
        says("so one without literals is never true");
        due("alone", with(c()).count(), 0);
        due("first", with(c(), c(0)).count(), 0);
        due("between", with(c(0), c(), c(2)).count(), 0);
        due("last", with(c(0), c(2), c()).count(), 0);
        ModelCounter x = new ModelCounter();
        for (int n = 0; n < 13; n++) {
            add(x, 0);
        }
        due("13 that can be true", x.count(), 128);
        x.clause();
        due("the 14th", x.count(), 0);
        x.unclause();
        due("when it is gone", x.count(), 128);
    }

    private static void weightsAreAll1AtFirst() {
        says("WEIGHTS w(v, 0) and w(v, 1), 0 to 9, all 1 at first");
        due("weighted()", new ModelCounter().weighted(), 256);
        ModelCounter x = new ModelCounter();
        for (int v = 0; v < 8; v++) {
            due("weight(" + v + ", 0, 0)", x.weight(v, 0, 0), 1);
            due("weight(" + v + ", 1, 0)", x.weight(v, 1, 0), 1);
        }
        due("all 0, weighted()", x.weighted(), 0);
    }

    private static void anAssignmentIsItsNumber() {
        says("An ASSIGNMENT gives each variable a truth; its number is the sum of 2 to the power v");
        for (int a : new int[] {0, 1, 127, 128, 254, 255}) {
            ModelCounter x = only(a);
            due("only " + a + ", count()", x.count(), 1);
            due("only " + a + ", model(0)", x.model(0), a);
            due("only " + a + ", isModel(" + a + ")", x.isModel(a), true);
            due("only " + a + ", alwaysTrue()", x.alwaysTrue(), a);
            due("only " + a + ", alwaysFalse()", x.alwaysFalse(), 255 - a);
            for (int v = 0; v < 8; v++) {
                x.weight(v, 0, 2);
                x.weight(v, 1, 3);
            }
            int weight = 1;
            for (int v = 0; v < 8; v++) {
                weight *= (a & 1 << v) == 0 ? 2 : 3;
            }
            due("only " + a + ", weighted()", x.weighted(), weight);
        }
    }

    /** (x or y) and (x or z): 5 of the 8 truths of the three. */
    private static void addFiveOfEight(ModelCounter x, int first) {
        add(x, first, first + 2);
        add(x, first, first + 4);
    }

    private static void sumsWrap() {
        says("Sums of weights wrap as Java ints do");
        ModelCounter x = allWeights(8);
        due("2 to the power 32, weighted()", x.weighted(), 0);
        due("2 to the power 31, share(0, 0)", x.share(0, 0), LEAST);
        due("2 to the power 31, share(7, 1)", x.share(7, 1), LEAST);
        x.weight(7, 0, 4);
        x.weight(7, 1, 4);
        due("2 to the power 31, weighted()", x.weighted(), LEAST);
        due("2 to the power 30, share(0, 1)", x.share(0, 1), 1 << 30);
        x.weight(7, 1, 3);
        due("15 times 2 to the power 27, weighted()", x.weighted(), 7 << 28);

        // The pairs add up to 18, 18, 18, 17, 17, 14, 13 and 7.
        int[] low = {9, 9, 9, 8, 8, 7, 6, 3};
        int[] high = {9, 9, 9, 9, 9, 7, 7, 4};
        ModelCounter y = new ModelCounter();
        for (int v = 0; v < 8; v++) {
            y.weight(v, 0, low[v]);
            y.weight(v, 1, high[v]);
        }
        due("just too small to wrap, weighted()", y.weighted(), 2147260752);
    }

    private static void sumsWrapOverSomeModels() {
        says("Sums of weights wrap as Java ints do");
        ModelCounter one = only(255);
        setAllWeights(one, 9);
        due("1 model, weighted()", one.weighted(), HEAVIEST);
        ModelCounter inside = with(c(0, 2, 4), c(6, 8, 10), c(12), c(14));
        setAllWeights(inside, 9);
        due("49 models, count()", inside.count(), 49);
        due("49 models, weighted()", inside.weighted(), 2109289329);
        due("49 models, share(7, 1)", inside.share(7, 1), 2109289329);
        due("49 models, share(7, 0)", inside.share(7, 0), 0);
        ModelCounter outside = with(c(12));
        addFiveOfEight(outside, 0);
        addFiveOfEight(outside, 6);
        setAllWeights(outside, 9);
        due("50 models, count()", outside.count(), 50);
        due("50 models, weighted()", outside.weighted(), -2142631246);
        due("50 models, share(6, 1)", outside.share(6, 1), -2142631246);
        due("25 models, share(7, 1)", outside.share(7, 1), 25 * HEAVIEST);
        outside.unclause();
        due("60 models, count()", outside.count(), 60);
        due("60 models, weighted()", outside.weighted(), -1712164036);
    }

    private static void sumsWrapMoreThanOnce() {
        says("Sums of weights wrap as Java ints do");
        ModelCounter x = allWeights(9);
        due("256 models, weighted()", x.weighted(), -1864941312);
        due("128 models, share(0, 0)", x.share(0, 0), 1215012992);
        due("128 models, share(7, 1)", x.share(7, 1), 1215012992);
        addFiveOfEight(x, 0);
        addFiveOfEight(x, 6);
        due("100 models, count()", x.count(), 100);
        due("100 models, weighted()", x.weighted(), 9704804);
    }

    private static final int[] ODD = {
        LEAST, LEAST + 1, -257, -256, -16, -2, -1, 0, 1, 2, 3, 7, 8, 9, 10,
        14, 15, 16, 17, 31, 32, 254, 255, 256, 257, GREATEST - 1, GREATEST
    };

    private static void throwless(State state, String told, Call call) {
        try {
            call.on(state.make());
        } catch (Throwable t) {
            fault(told + " threw " + t);
        }
    }

    private static void noCallThrows() {
        says("No call ever throws");
        for (State s : STATES) {
            throwless(s, "clause(), unclause()", x -> x.clause() + x.unclause());
            throwless(s, "scrap()", BoundaryTest::scrap);
            throwless(s, "numbers", x -> x.clauses() + x.count() + x.weighted() + x.leastTrue());
            throwless(s, "sets", x -> x.alwaysTrue() + x.alwaysFalse() + x.idle());
            for (int n : ODD) {
                throwless(s, "literal(" + n + ")", x -> x.literal(n));
                throwless(s, "countSize(" + n + ")", x -> x.countSize(n));
                throwless(s, "model(" + n + ")", x -> x.model(n));
                throwless(s, "rank(" + n + ")", x -> x.rank(n));
                throwless(s, "isModel(" + n + ")", x -> isModel(x, n));
                for (int m : ODD) {
                    throwless(s, "countWith(" + n + ", " + m + ")", x -> x.countWith(n, m));
                    throwless(s, "share(" + n + ", " + m + ")", x -> x.share(n, m));
                    for (int o : ODD) {
                        throwless(s, "weight(" + n + ", " + m + ", " + o + ")", x -> x.weight(n, m, o));
                    }
                }
            }
        }
    }

    private static int scrap(ModelCounter x) {
        x.scrap();
        return 0;
    }

    private static int isModel(ModelCounter x, int a) {
        return x.isModel(a) ? 1 : 0;
    }

    private static void questionsChangeNothing() {
        says("Nothing is promised beyond the answers and state changes described above");
        for (State s : STATES) {
            unchangedBy(s, "clauses()", ModelCounter::clauses);
            unchangedBy(s, "count()", ModelCounter::count);
            unchangedBy(s, "countWith(255, 0)", x -> x.countWith(255, 0));
            unchangedBy(s, "countSize(8)", x -> x.countSize(8));
            unchangedBy(s, "weighted()", ModelCounter::weighted);
            unchangedBy(s, "share(7, 1)", x -> x.share(7, 1));
            unchangedBy(s, "model(0)", x -> x.model(0));
            unchangedBy(s, "rank(256)", x -> x.rank(256));
            unchangedBy(s, "isModel(255)", x -> isModel(x, 255));
            unchangedBy(s, "alwaysTrue()", ModelCounter::alwaysTrue);
            unchangedBy(s, "alwaysFalse()", ModelCounter::alwaysFalse);
            unchangedBy(s, "idle()", ModelCounter::idle);
            unchangedBy(s, "leastTrue()", ModelCounter::leastTrue);
        }
    }

    // ---- Promises 1 to 6

    private static void newObjectHasNoClause() {
        says("1: No clause");
        due("clauses()", new ModelCounter().clauses(), 0);
        due("unclause()", new ModelCounter().unclause(), NONE);
        due("count()", new ModelCounter().count(), 256);
        due("the first clause()", new ModelCounter().clause(), 0);
    }

    private static void newObjectMakesAnEmptyClause() {
        says("1: the clause being made has no literal");
        due("the first literal(0)", new ModelCounter().literal(0), 1);
        ModelCounter x = new ModelCounter();
        x.clause();
        due("clause(), count()", x.count(), 0);
    }

    private static void newObjectsAreApart() {
        says("1: a new object beside one that is full");
        ModelCounter x = full();
        ModelCounter y = new ModelCounter();
        due("clauses()", y.clauses(), 0);
        due("literal(0)", y.literal(0), 1);
        due("weight(0, 0, 5)", y.weight(0, 0, 5), 1);
        due("clauses() of the full one", x.clauses(), 14);
        due("weight(0, 0, 9) of the full one", x.weight(0, 0, 9), 9);
    }

    private static void literalOutOfRange() {
        says("2: l not 0 to 15 answers BAD_ARG");
        for (int l : new int[] {-1, 16, -2, 17, 31, 32, LEAST, GREATEST}) {
            refused("literal(" + l + ")", BAD_ARG, x -> x.literal(l));
        }
        due("literal(0)", new ModelCounter().literal(0), 1);
        due("literal(15)", new ModelCounter().literal(15), 1);
        due("clause of 0, alwaysTrue()", with(c(0)).alwaysTrue(), 1);
        due("clause of 1, alwaysFalse()", with(c(1)).alwaysFalse(), 1);
        due("clause of 14, alwaysTrue()", with(c(14)).alwaysTrue(), 128);
        due("clause of 15, alwaysFalse()", with(c(15)).alwaysFalse(), 128);
    }

    private static void literalWithoutRoom() {
        says("2: it has 3 answers FULL");
        for (int l = 0; l < 16; l++) {
            int more = l;
            refusedIn(BoundaryTest::full, "literal(" + l + ")", FULL, x -> x.literal(more));
        }
        ModelCounter x = new ModelCounter();
        due("third", x.literal(0) + x.literal(2) + x.literal(4), 1 + 2 + 3);
        due("fourth", x.literal(6), FULL);
        due("fifth", x.literal(6), FULL);
        x.clause();
        due("the first of the next clause", x.literal(6), 1);
    }

    private static void literalRepeated() {
        says("2: it has 3 answers FULL; the same literal again and again");
        ModelCounter x = new ModelCounter();
        due("first", x.literal(15), 1);
        due("second", x.literal(15), 2);
        due("third", x.literal(15), 3);
        due("fourth", x.literal(15), FULL);
        x.clause();
        due("three times, count()", x.count(), 128);
        due("twice, count()", with(c(15, 15)).count(), 128);
    }

    private static void literalOrderOfTests() {
        says("2: Tested in this order");
        for (int l : new int[] {-1, 16, LEAST, GREATEST}) {
            refusedIn(BoundaryTest::full, "beside 3 literals, literal(" + l + ")", BAD_ARG, x -> x.literal(l));
        }
    }

    private static void scrapOf0To3Literals() {
        says("3: The clause being made has no literal from now on");
        for (int size = 0; size <= 3; size++) {
            ModelCounter x = with(c(0));
            for (int n = 0; n < size; n++) {
                x.literal(2 * n + 2);
            }
            x.scrap();
            due("scrap of " + size + ", clauses()", x.clauses(), 1);
            due("scrap of " + size + ", literal(15)", x.literal(15), 1);
            due("scrap of " + size + ", clause()", x.clause(), 1);
            due("scrap of " + size + ", count()", x.count(), 64);
            due("scrap of " + size + ", alwaysFalse()", x.alwaysFalse(), 128);
            x.literal(4);
            x.scrap();
            x.scrap();
            x.clause();
            due("scrap twice, count() of an empty clause", x.count(), 0);
        }
    }

    private static void scrapBeside14Clauses() {
        says("3: The clause being made has no literal from now on; beside 14 clauses");
        ModelCounter x = full();
        due("literal(2)", x.literal(2), FULL);
        x.scrap();
        due("clauses()", x.clauses(), 14);
        due("clause()", x.clause(), FULL);
        due("literal(2)", x.literal(2), 1);
        due("the models stay", models(x).equals(models(full())), true);
    }

    private static void clauseWithoutRoom() {
        says("4: FULL if there are 14 clauses");
        refusedIn(BoundaryTest::full, "clause() of 3 literals", FULL, ModelCounter::clause);
        for (int size = 0; size < 3; size++) {
            int literals = size;
            State state = () -> fullButMaking(literals);
            refusedIn(state, "clause() of " + size + " literals", FULL, ModelCounter::clause);
        }
        ModelCounter x = full();
        due("clause()", x.clause(), FULL);
        due("clause() again", x.clause(), FULL);
        due("clauses()", x.clauses(), 14);
    }

    private static ModelCounter fullButMaking(int literals) {
        ModelCounter x = full();
        x.scrap();
        for (int n = 0; n < literals; n++) {
            x.literal(3 * n);
        }
        return x;
    }

    private static void clauseNumbers() {
        says("4: Otherwise its number; numbered from 0 on");
        ModelCounter x = new ModelCounter();
        for (int n = 0; n < 14; n++) {
            due("clause()", add(x, n), n);
        }
        due("clause()", x.clause(), FULL);
        due("unclause()", x.unclause(), 13);
        due("clause() where one was removed", add(x, 0), 13);
        due("clause()", x.clause(), FULL);
    }

    private static void clauseThe14thCounts() {
        says("4: Adds the clause being made; as the last that there is room for");
        ModelCounter x = new ModelCounter();
        for (int n = 0; n < 13; n++) {
            add(x, 0);
        }
        due("13 clauses, count()", x.count(), 128);
        due("clause()", add(x, 15), 13);
        due("14 clauses, count()", x.count(), 64);
        due("a 15th", add(x, 2), FULL);
        due("14 clauses, count()", x.count(), 64);
    }

    private static void clauseLeavesAnEmptyOne() {
        says("4: the next one has no literal");
        for (int size = 0; size <= 3; size++) {
            ModelCounter x = new ModelCounter();
            for (int n = 0; n < size; n++) {
                x.literal(2 * n);
            }
            x.clause();
            due("after one of " + size + ", literal(15)", x.literal(15), 1);
            ModelCounter y = new ModelCounter();
            for (int n = 0; n < size; n++) {
                y.literal(2 * n);
            }
            y.clause();
            due("after one of " + size + ", clause()", y.clause(), 1);
            due("after one of " + size + ", count()", y.count(), 0);
        }
        ModelCounter z = full();
        z.unclause();
        due("the 14th", z.clause(), 13);
        due("after the 14th, literal(0)", z.literal(0), 1);
    }

    private static void unclauseOfNone() {
        says("5: NONE if there is none");
        refusedIn(ModelCounter::new, "unclause()", NONE, ModelCounter::unclause);
        State emptied = () -> without(3, busy());
        refusedIn(emptied, "unclause() when all are gone", NONE, ModelCounter::unclause);
        ModelCounter x = new ModelCounter();
        due("unclause()", x.unclause(), NONE);
        due("unclause() again", x.unclause(), NONE);
        due("clause()", add(x, 0), 0);
        due("unclause() of one", x.unclause(), 0);
        due("unclause() of none", x.unclause(), NONE);
    }

    private static void unclauseOf14() {
        says("5: Removes the clause with the highest number. Otherwise the number it had");
        ModelCounter x = new ModelCounter();
        for (int n = 0; n < 14; n++) {
            // Clause n is true if variable n is, from 8 on if variable 0 is.
            add(x, n < 8 ? 2 * n : 0);
        }
        for (int n = 13; n >= 0; n--) {
            due("unclause()", x.unclause(), n);
            due("clauses()", x.clauses(), n);
            due("count() of " + n, x.count(), 256 >> Math.min(n, 8));
        }
    }

    private static void unclauseKeepsTheClauseBeingMade() {
        says("5: Removes the clause with the highest number; and nothing else");
        ModelCounter x = full();
        due("unclause()", x.unclause(), 13);
        due("literal(0)", x.literal(0), FULL);
        without(13, x);
        due("clause()", x.clause(), 0);
        due("count()", x.count(), 224);
        due("isModel(129)", x.isModel(129), false);
        due("weight(3, 1, 2)", x.weight(3, 1, 2), 9);
    }

    private static void clausesFrom0To14() {
        says("6: The number of clauses");
        ModelCounter x = new ModelCounter();
        for (int n = 0; n < 14; n++) {
            due("clauses()", x.clauses(), n);
            x.literal(0);
            due("clauses() while one is being made", x.clauses(), n);
            x.clause();
        }
        due("clauses()", x.clauses(), 14);
        x.clause();
        due("clauses() after a refused clause()", x.clauses(), 14);
        ModelCounter y = new ModelCounter();
        y.unclause();
        due("clauses() after a refused unclause()", y.clauses(), 0);
    }

    // ---- Promise 7

    private static void weightOfNoVariable() {
        says("7: BAD_ARG if v is not 0 to 7");
        for (int v : new int[] {-1, 8, -2, 9, 16, 1 << 30, LEAST, GREATEST}) {
            refused("weight(" + v + ", 0, 5)", BAD_ARG, x -> x.weight(v, 0, 5));
            refused("weight(" + v + ", 1, 5)", BAD_ARG, x -> x.weight(v, 1, 5));
        }
        due("weight(0, 0, 5)", new ModelCounter().weight(0, 0, 5), 1);
        due("weight(7, 1, 5)", new ModelCounter().weight(7, 1, 5), 1);
    }

    private static void weightOfNoTruth() {
        says("7: BAD_ARG if b not 0 or 1");
        for (int b : new int[] {-1, 2, -2, 3, LEAST, GREATEST}) {
            refused("weight(0, " + b + ", 5)", BAD_ARG, x -> x.weight(0, b, 5));
            refused("weight(3, " + b + ", 5)", BAD_ARG, x -> x.weight(3, b, 5));
            refused("weight(7, " + b + ", 5)", BAD_ARG, x -> x.weight(7, b, 5));
        }
    }

    private static void weightOutOfRange() {
        says("7: BAD_ARG if w not 0 to 9");
        for (int w : new int[] {-1, 10, -2, 11, LEAST, GREATEST}) {
            refused("weight(0, 0, " + w + ")", BAD_ARG, x -> x.weight(0, 0, w));
            refused("weight(7, 1, " + w + ")", BAD_ARG, x -> x.weight(7, 1, w));
        }
        ModelCounter x = new ModelCounter();
        due("weight(2, 1, 0)", x.weight(2, 1, 0), 1);
        due("weight(2, 1, 9)", x.weight(2, 1, 9), 0);
        due("weight(2, 1, 9)", x.weight(2, 1, 9), 9);
        due("weight(2, 1, 0)", x.weight(2, 1, 0), 9);
    }

    private static void weightWithSeveralFaults() {
        says("7: BAD_ARG; for more than one reason");
        refused("weight(8, 2, 5)", BAD_ARG, x -> x.weight(8, 2, 5));
        refused("weight(-1, 0, 10)", BAD_ARG, x -> x.weight(-1, 0, 10));
        refused("weight(0, -1, -1)", BAD_ARG, x -> x.weight(0, -1, -1));
        refused("weight(least, least, least)", BAD_ARG, x -> x.weight(LEAST, LEAST, LEAST));
        refused("weight(greatest, greatest, greatest)", BAD_ARG, x -> x.weight(GREATEST, GREATEST, GREATEST));
    }

    private static void weightBefore() {
        says("7: w(v, b) becomes w. Otherwise what it was before");
        for (int v = 0; v < 8; v++) {
            for (int b = 0; b < 2; b++) {
                ModelCounter x = new ModelCounter();
                String place = "weight(" + v + ", " + b + ", .)";
                due(place, x.weight(v, b, 9), 1);
                due(place + ", weighted()", x.weighted(), 128 + 9 * 128);
                due(place, x.weight(v, b, 0), 9);
                due(place + ", weighted()", x.weighted(), 128);
                due(place, x.weight(v, b, 0), 0);
                due("the other of " + place, x.weight(v, 1 - b, 0), 1);
            }
        }
    }

    // ---- Promises 8 to 10

    private static void countFrom0To256() {
        says("8: The number of models");
        due("no clause", new ModelCounter().count(), 256);
        due("a clause that is always true", with(c(14, 15)).count(), 256);
        due("all but an eighth", with(c(11, 13, 15)).count(), 224);
        due("the first alone", only(0).count(), 1);
        due("the last alone", only(255).count(), 1);
        due("none, by two clauses", with(c(14), c(15)).count(), 0);
        due("none, by a clause without literals", with(c()).count(), 0);
        due("weights of 0", allWeights(0).count(), 256);
    }

    private static void countWithOutOfRange() {
        says("9: BAD_ARG if set or truths is not 0 to 255");
        for (int n : new int[] {-1, 256, -2, 257, -256, 511, LEAST, GREATEST}) {
            refused("countWith(" + n + ", 0)", BAD_ARG, x -> x.countWith(n, 0));
            refused("countWith(" + n + ", 255)", BAD_ARG, x -> x.countWith(n, 255));
            refused("countWith(0, " + n + ")", BAD_ARG, x -> x.countWith(0, n));
            refused("countWith(255, " + n + ")", BAD_ARG, x -> x.countWith(255, n));
            refused("countWith(" + n + ", " + n + ")", BAD_ARG, x -> x.countWith(n, n));
        }
    }

    private static void countWithAtTheEdges() {
        says("9: The number of models in which the variables of set have the truths");
        ModelCounter x = with(c(0, 14), c(3));
        due("countWith(0, 0)", x.countWith(0, 0), 96);
        due("countWith(0, 255)", x.countWith(0, 255), 96);
        due("countWith(1, 0)", x.countWith(1, 0), 32);
        due("countWith(1, 1)", x.countWith(1, 1), 64);
        due("countWith(128, 127)", x.countWith(128, 127), 32);
        due("countWith(128, 128)", x.countWith(128, 128), 64);
        due("countWith(255, 255)", x.countWith(255, 255), 0);
        due("countWith(255, 253)", x.countWith(255, 253), 1);
        due("countWith(255, 0)", x.countWith(255, 0), 0);
        due("no clause, countWith(255, 0)", new ModelCounter().countWith(255, 0), 1);
        due("no clause, countWith(255, 255)", new ModelCounter().countWith(255, 255), 1);
        due("no clause, countWith(0, 0)", new ModelCounter().countWith(0, 0), 256);
        due("no model, countWith(0, 0)", with(c()).countWith(0, 0), 0);
        due("no model, countWith(255, 255)", with(c()).countWith(255, 255), 0);
    }

    private static void countSizeOutOfRange() {
        says("10: 0 if k is not 0 to 8");
        for (int k : new int[] {-1, 9, -2, 10, 256, LEAST, GREATEST}) {
            refused("countSize(" + k + ")", 0, x -> x.countSize(k));
        }
    }

    private static void countSizeAtTheEdges() {
        says("10: The number of models in which exactly k variables are true");
        due("countSize(0)", new ModelCounter().countSize(0), 1);
        due("countSize(4)", new ModelCounter().countSize(4), 70);
        due("countSize(8)", new ModelCounter().countSize(8), 1);
        due("only 0, countSize(0)", only(0).countSize(0), 1);
        due("only 0, countSize(1)", only(0).countSize(1), 0);
        due("only 255, countSize(8)", only(255).countSize(8), 1);
        due("only 255, countSize(7)", only(255).countSize(7), 0);
        due("all but 0 and others, countSize(0)", with(c(0, 2, 4)).countSize(0), 0);
        due("all but 255 and others, countSize(8)", with(c(11, 13, 15)).countSize(8), 0);
        for (int k = 0; k <= 8; k++) {
            due("no model, countSize(" + k + ")", with(c()).countSize(k), 0);
        }
    }

    // ---- Promises 11 and 12

    private static void weightedAtTheEdges() {
        says("11: The sum of the weights of all models");
        due("no clause", new ModelCounter().weighted(), 256);
        due("no model", with(c()).weighted(), 0);
        due("no model, and weights of 9", hopelessAnd9().weighted(), 0);
        due("weights of 0", allWeights(0).weighted(), 0);
        ModelCounter x = new ModelCounter();
        x.weight(7, 0, 0);
        due("w(7, 0) is 0", x.weighted(), 128);
        x.weight(7, 1, 0);
        due("w(7, 1) is 0 too", x.weighted(), 0);
    }

    private static ModelCounter hopelessAnd9() {
        ModelCounter x = hopeless();
        setAllWeights(x, 9);
        return x;
    }

    private static void shareOfNoVariable() {
        says("12: 0 if v is not 0 to 7");
        for (int v : new int[] {-1, 8, -2, 9, -32, -25, 31, 32, 39, LEAST, GREATEST}) {
            refused("share(" + v + ", 0)", 0, x -> x.share(v, 0));
            refused("share(" + v + ", 1)", 0, x -> x.share(v, 1));
        }
        due("share(0, 0)", new ModelCounter().share(0, 0), 128);
        due("share(7, 0)", new ModelCounter().share(7, 0), 128);
    }

    private static void shareOfNoTruth() {
        says("12: 0 if b not 0 or 1");
        for (int b : new int[] {-1, 2, -2, 3, 256, LEAST, GREATEST}) {
            refused("share(0, " + b + ")", 0, x -> x.share(0, b));
            refused("share(7, " + b + ")", 0, x -> x.share(7, b));
            refused("share(8, " + b + ")", 0, x -> x.share(8, b));
            refused("share(-1, " + b + ")", 0, x -> x.share(-1, b));
        }
        due("share(0, 1)", new ModelCounter().share(0, 1), 128);
        due("share(7, 1)", new ModelCounter().share(7, 1), 128);
    }

    private static void shareAtTheEdges() {
        says("12: The sum of the weights of the models in which variable v has the truth b (1: true)");
        for (int v = 0; v < 8; v++) {
            ModelCounter x = new ModelCounter();
            x.weight(v, 0, 0);
            x.weight(v, 1, 9);
            due("w(" + v + ", 0) is 0, share(" + v + ", 0)", x.share(v, 0), 0);
            due("w(" + v + ", 1) is 9, share(" + v + ", 1)", x.share(v, 1), 9 * 128);
            add(x, 2 * v + 1);
            due("never true, share(" + v + ", 1)", x.share(v, 1), 0);
            due("no model, share(" + v + ", 0)", with(c()).share(v, 0), 0);
            due("no model, share(" + v + ", 1)", with(c()).share(v, 1), 0);
            due("only 0, share(" + v + ", 0)", only(0).share(v, 0), 1);
            due("only 255, share(" + v + ", 1)", only(255).share(v, 1), 1);
        }
    }

    // ---- Promises 13 to 15

    private static void modelWithKOrFewer() {
        says("13: NONE if there are k or fewer");
        due("256 models, model(255)", new ModelCounter().model(255), 255);
        due("256 models, model(256)", new ModelCounter().model(256), NONE);
        due("224 models, model(223)", with(c(0, 2, 4)).model(223), 255);
        due("224 models, model(224)", with(c(0, 2, 4)).model(224), NONE);
        due("1 model, model(0)", only(0).model(0), 0);
        due("1 model, model(1)", only(0).model(1), NONE);
        due("1 model, model(0)", only(255).model(0), 255);
        due("1 model, model(1)", only(255).model(1), NONE);
        due("no model, model(0)", with(c()).model(0), NONE);
        for (int k : new int[] {256, 257, 65536, GREATEST - 1, GREATEST}) {
            refused("model(" + k + ")", NONE, x -> x.model(k));
        }
        refusedIn(BoundaryTest::hopeless, "no model, model(0)", NONE, x -> x.model(0));
        refusedIn(() -> only(255), "1 model, model(1)", NONE, x -> x.model(1));
    }

    private static void modelBeforeTheFirst() {
        says("13: NONE if k < 0");
        for (int k : new int[] {-1, -2, -256, LEAST, LEAST + 1}) {
            refused("model(" + k + ")", NONE, x -> x.model(k));
        }
        due("model(0)", new ModelCounter().model(0), 0);
    }

    private static void rankOutOfRange() {
        says("14: BAD_ARG if a is not 0 to 256");
        for (int a : new int[] {-1, 257, -2, 258, 512, LEAST, GREATEST}) {
            refused("rank(" + a + ")", BAD_ARG, x -> x.rank(a));
        }
    }

    private static void rankAtTheEdges() {
        says("14: How many models have a number less than a");
        due("rank(0)", new ModelCounter().rank(0), 0);
        due("rank(1)", new ModelCounter().rank(1), 1);
        due("rank(255)", new ModelCounter().rank(255), 255);
        due("rank(256)", new ModelCounter().rank(256), 256);
        due("only 0, rank(0)", only(0).rank(0), 0);
        due("only 0, rank(1)", only(0).rank(1), 1);
        due("only 255, rank(255)", only(255).rank(255), 0);
        due("only 255, rank(256)", only(255).rank(256), 1);
        due("no model, rank(0)", with(c()).rank(0), 0);
        due("no model, rank(256)", with(c()).rank(256), 0);
    }

    private static void isModelOutOfRange() {
        says("15: false if a is not 0 to 255");
        for (int a : new int[] {-1, 256, -2, 257, -256, 511, LEAST, GREATEST}) {
            refused("isModel(" + a + ")", 0, x -> isModel(x, a));
        }
        due("isModel(0)", new ModelCounter().isModel(0), true);
        due("isModel(255)", new ModelCounter().isModel(255), true);
        due("only 0, isModel(256)", only(0).isModel(256), false);
        due("only 255, isModel(-1)", only(255).isModel(-1), false);
        due("only 255, isModel(511)", only(255).isModel(511), false);
        due("no model, isModel(0)", with(c()).isModel(0), false);
        due("no model, isModel(255)", with(c()).isModel(255), false);
    }

    // ---- Promises 16 to 19

    /** No model because of two clauses, of a clause without literals, and of all truths of three. */
    private static final State[] WITHOUT_MODEL = {
        BoundaryTest::hopeless,
        () -> with(c(14), c(15)),
        () -> with(c(0, 2, 4), c(0, 2, 5), c(0, 3, 4), c(0, 3, 5), c(1, 2, 4), c(1, 2, 5), c(1, 3, 4), c(1, 3, 5))
    };

    private static void withoutModel(String told, int code, Call call) {
        for (State state : WITHOUT_MODEL) {
            refusedIn(state, told, code, call);
        }
    }

    private static void alwaysTrueWithoutModel() {
        says("16: NONE if there is no model");
        withoutModel("alwaysTrue()", NONE, ModelCounter::alwaysTrue);
        ModelCounter x = with(c(0), c());
        x.unclause();
        due("when there is one again, alwaysTrue()", x.alwaysTrue(), 1);
    }

    private static void alwaysTrueAtTheEdges() {
        says("16: The set of the variables that are true in all models");
        due("no clause", new ModelCounter().alwaysTrue(), 0);
        due("only 0", only(0).alwaysTrue(), 0);
        due("only 255", only(255).alwaysTrue(), 255);
        due("false in one of them", with(c(0, 2)).alwaysTrue(), 0);
    }

    private static void alwaysFalseWithoutModel() {
        says("17: NONE if there is no model");
        withoutModel("alwaysFalse()", NONE, ModelCounter::alwaysFalse);
        ModelCounter x = with(c(1), c());
        x.unclause();
        due("when there is one again, alwaysFalse()", x.alwaysFalse(), 1);
    }

    private static void alwaysFalseAtTheEdges() {
        says("17: The set of the variables that are false in all models");
        due("no clause", new ModelCounter().alwaysFalse(), 0);
        due("only 255", only(255).alwaysFalse(), 0);
        due("only 0", only(0).alwaysFalse(), 255);
        due("true in one of them", with(c(1, 3)).alwaysFalse(), 0);
    }

    private static void idleWithoutModel() {
        says("18: 255 if there is no model");
        withoutModel("idle()", 255, ModelCounter::idle);
    }

    private static void idleAtTheEdges() {
        says("18: changing the truth of v in a model always gives a model again");
        due("no clause", new ModelCounter().idle(), 255);
        due("a clause that is always true", with(c(0, 1, 2)).idle(), 255);
        due("only 0", only(0).idle(), 0);
        due("only 255", only(255).idle(), 0);
        due("0 is true", with(c(0)).idle(), 254);
        due("7 is false", with(c(15)).idle(), 127);
        due("in a clause that another one covers", with(c(0), c(0, 2)).idle(), 254);
    }

    private static void leastTrueWithoutModel() {
        says("19: NONE if there is no model");
        withoutModel("leastTrue()", NONE, ModelCounter::leastTrue);
    }

    private static void leastTrueAtTheEdges() {
        says("19: The least number of variables that are true in a model");
        due("no clause", new ModelCounter().leastTrue(), 0);
        due("only 0", only(0).leastTrue(), 0);
        due("only 255", only(255).leastTrue(), 8);
        due("only 254", only(254).leastTrue(), 7);
        due("only 128", only(128).leastTrue(), 1);
        due("the last is the least", with(c(14), c(1, 15), c(3, 15)).leastTrue(), 1);
    }

    public static void main(String[] args) {
        the512thCallStillAnswers();
        aClauseHas0To3Literals();
        aClauseWithoutLiteralsIsNeverTrue();
        weightsAreAll1AtFirst();
        anAssignmentIsItsNumber();
        sumsWrap();
        sumsWrapOverSomeModels();
        sumsWrapMoreThanOnce();
        noCallThrows();
        questionsChangeNothing();
        newObjectHasNoClause();
        newObjectMakesAnEmptyClause();
        newObjectsAreApart();
        literalOutOfRange();
        literalWithoutRoom();
        literalRepeated();
        literalOrderOfTests();
        scrapOf0To3Literals();
        scrapBeside14Clauses();
        clauseWithoutRoom();
        clauseNumbers();
        clauseThe14thCounts();
        clauseLeavesAnEmptyOne();
        unclauseOfNone();
        unclauseOf14();
        unclauseKeepsTheClauseBeingMade();
        clausesFrom0To14();
        weightOfNoVariable();
        weightOfNoTruth();
        weightOutOfRange();
        weightWithSeveralFaults();
        weightBefore();
        countFrom0To256();
        countWithOutOfRange();
        countWithAtTheEdges();
        countSizeOutOfRange();
        countSizeAtTheEdges();
        weightedAtTheEdges();
        shareOfNoVariable();
        shareOfNoTruth();
        shareAtTheEdges();
        modelWithKOrFewer();
        modelBeforeTheFirst();
        rankOutOfRange();
        rankAtTheEdges();
        isModelOutOfRange();
        alwaysTrueWithoutModel();
        alwaysTrueAtTheEdges();
        alwaysFalseWithoutModel();
        alwaysFalseAtTheEdges();
        idleWithoutModel();
        idleAtTheEdges();
        leastTrueWithoutModel();
        leastTrueAtTheEdges();
        System.out.println(wrong == 0 ? "all answers are as due" : wrong + " answers are not as due");
        if (wrong != 0) {
            System.exit(1);
        }
    }
}
