import java.util.ArrayList;
import java.util.List;

/**
 * Each sentence of the document that names a boundary case, with a test of its own: arguments just within, just
 * beyond and far beyond each range, no flows and twenty, refused calls, and the state that they leave behind.
 */
public final class BoundaryTest {
    private static final int LOW = Integer.MIN_VALUE;
    private static final int HIGH = Integer.MAX_VALUE;

    private static final State EMPTY = new State(
        new int[][] {{0, 0}, {0, 0}}, new int[] {2, 2}, new int[0][]);
    private static final State SOME = new State(
        new int[][] {{7, 60}, {0, 5}, {11, 2}}, new int[] {2, 1, 0},
        new int[][] {{0, 1, 30, 4}, {1, 2, 3, 0}, {2, 0, 9, 13}});
    private static final State FULL = full();
    private static final State[] STATES = {EMPTY, SOME, FULL};

    private static String sentence = "";
    private static int sentences = 0;
    private static int wrong = 0;

    private interface Call {
        int on(UnboxPlanner x);
    }

    /** A state known in full, to make an object in it and to tell later whether it is still in it. */
    private static final class State {
        final int n;
        final int[][] costs;
        final int[] fixed;
        final int[][] flows;

        State(int[][] costs, int[] fixed, int[][] flows) {
            this.n = fixed.length;
            this.costs = costs;
            this.fixed = fixed;
            this.flows = flows;
        }

        UnboxPlanner make() {
            UnboxPlanner x = new UnboxPlanner(n);
            for (int v = 0; v < n; v++) {
                x.cost(v, 0, costs[v][0]);
                x.cost(v, 1, costs[v][1]);
                x.fix(v, fixed[v]);
            }
            for (int[] f : flows) {
                x.flow(f[0], f[1], f[2], f[3]);
            }
            return x;
        }

        /** Worked out here, of the flows from one number on. */
        int costOf(int plan, int fromFlow) {
            int sum = 0;
            for (int v = 0; v < n; v++) {
                sum += costs[v][plan >> v & 1];
            }
            for (int i = fromFlow; i < flows.length; i++) {
                int from = plan >> flows[i][0] & 1;
                int to = plan >> flows[i][1] & 1;
                sum += from == 0 && to == 1 ? flows[i][2] : from == 1 && to == 0 ? flows[i][3] : 0;
            }
            return sum;
        }

        /** Few enough to ask about each after every cut within the 512 calls, and enough to know each flow by. */
        int[] tellingPlans() {
            int[] plans = new int[n + 2];
            for (int v = 0; v < n; v++) {
                plans[v] = 1 << v;
            }
            plans[n] = 0;
            plans[n + 1] = (1 << n) - 1;
            return plans;
        }

        /** Takes the object apart, since only a change tells for certain what each cost, form and flow was. */
        String changeIn(UnboxPlanner x) {
            if (x.values() != n || x.flows() != flows.length) {
                return "there are other values or flows";
            }
            for (int v = 0; v < n; v++) {
                if (x.cost(v, 0, costs[v][0]) != costs[v][0] || x.cost(v, 1, costs[v][1]) != costs[v][1]) {
                    return "a cost of value " + v + " is another";
                }
                if (x.fix(v, fixed[v]) != fixed[v]) {
                    return "value " + v + " is fixed otherwise";
                }
            }
            for (int gone = 0; gone <= flows.length; gone++) {
                for (int plan : tellingPlans()) {
                    if (x.costOf(plan) != costOf(plan, gone)) {
                        return "flow " + gone + " or a later one is another";
                    }
                }
                x.cut(0);
            }
            return "";
        }
    }

    /** Ten values, all fixed, at the greatest costs, and twenty flows of which no two neighbours are alike. */
    private static State full() {
        int[][] costs = new int[10][2];
        int[] fixed = new int[10];
        for (int v = 0; v < 10; v++) {
            costs[v][0] = 60;
            costs[v][1] = 60 - v;
            fixed[v] = v % 2;
        }
        int[][] flows = new int[20][];
        for (int i = 0; i < 20; i++) {
            flows[i] = new int[] {i % 10, (i + 1 + i / 10) % 10, 30 - i, 10 + i};
        }
        return new State(costs, fixed, flows);
    }

    public static void main(String[] args) {
        callsUpToThe512th();
        termsOfValuesAndPlans();
        termsOfFlows();
        termsOfFixing();
        termsOfCalls();
        promises1And2();
        promise3();
        promise4();
        promise5();
        promise6();
        flowsAnswersHowMany();
        promise8();
        bestAnswersTheCost();
        promises10And11();
        promise12();
        promise13();
        promise14();
        promise15();
        promise16();
        settledCountAnswersHowMany();
        System.out.println(wrong == 0 ? sentences + " sentences hold" : wrong + " answers are not as due");
        if (wrong != 0) {
            System.exit(1);
        }
    }

    // ---- What the tests are made of ----

    private static void says(String where, String words) {
        sentence = where + ", \"" + words + "\"";
        sentences++;
    }

    private static void fault(String what) {
        wrong++;
        if (wrong <= 100) {
            System.out.println(sentence + ": " + what);
        }
    }

    private static void due(String call, int got, int want) {
        if (got != want) {
            fault(call + " answered " + got + ", due is " + want);
        }
    }

    /** The answer is as due and the object is as it was before the call. */
    private static void leaves(State s, String call, Call c, int want) {
        UnboxPlanner x = s.make();
        due(call, c.on(x), want);
        String change = s.changeIn(x);
        if (!change.isEmpty()) {
            fault(call + " changed the object: " + change);
        }
    }

    private static boolean in(int x, int low, int high) {
        return low <= x && x <= high;
    }

    /** Just beyond low .. high, far beyond it, and where a shift, a byte or a short would wrap into it. */
    private static List<Integer> beyond(int low, int high) {
        int[] tried = {low - 1, high + 1, low - 2, high + 2, low + 32, low - 256, low + 256, low - 65536,
            low + 65536, LOW, LOW + 1, HIGH - 1, HIGH};
        List<Integer> found = new ArrayList<>();
        for (int x : tried) {
            if (!in(x, low, high) && !found.contains(x)) {
                found.add(x);
            }
        }
        return found;
    }

    /** The range's two ends and what is just and far beyond it. */
    private static int[] around(int low, int high) {
        return new int[] {low, high, low - 1, high + 1, LOW, HIGH};
    }

    /** -1 if the first one is so, otherwise -2 if the second one is so, and on; 0 if none is. */
    private static int first(boolean... faults) {
        for (int i = 0; i < faults.length; i++) {
            if (faults[i]) {
                return -1 - i;
            }
        }
        return 0;
    }

    private static UnboxPlanner fixedAll(int n, int plan) {
        UnboxPlanner x = new UnboxPlanner(n);
        for (int v = 0; v < n; v++) {
            x.fix(v, plan >> v & 1);
        }
        return x;
    }

    /** Ten values of cost 60 in both forms, fixed alternately, and twenty flows 0 to 1 that all count for 30. */
    private static UnboxPlanner dearest() {
        UnboxPlanner x = fixedAll(10, 682);
        for (int v = 0; v < 10; v++) {
            x.cost(v, 0, 60);
            x.cost(v, 1, 60);
        }
        for (int i = 0; i < 20; i++) {
            x.flow(0, 1, 30, 0);
        }
        return x;
    }

    private static UnboxPlanner withFlows(int count) {
        UnboxPlanner x = new UnboxPlanner(2);
        for (int i = 0; i < count; i++) {
            x.flow(0, 1, 1, 1);
        }
        return x;
    }

    // ---- What it is ----

    private static void callsUpToThe512th() {
        says("What it is", "An object is used for at most 512 calls after it has been made");
        due("values()", used511().values(), 3);
        due("cost(0, 1, 0)", used511().cost(0, 1, 0), 60);
        due("flow(0, 1, 1, 1)", used511().flow(0, 1, 1, 1), 3);
        due("cut(2)", used511().cut(2), 2);
        due("fix(1, 2)", used511().fix(1, 2), 1);
        due("flows()", used511().flows(), 3);
        due("costOf(2)", used511().costOf(2), 7 + 5 + 11 + 30 + 0);
        due("best()", used511().best(), 53);
        due("fewestBoxed()", used511().fewestBoxed(), 2);
        due("mostBoxed()", used511().mostBoxed(), 2);
        due("settled(0)", used511().settled(0), 0);
        due("bestWith(0, 1)", used511().bestWith(0, 1), 60 + 5 + 11 + 0 + 9);
        due("bestTied(0, 1, 1)", used511().bestTied(0, 1, 1), 85);
        due("saving(0)", used511().saving(0), 30);
        due("isBest(2)", used511().isBest(2), 1);
        due("settledCount()", used511().settledCount(), 3);
    }

    /** SOME, with calls of every sort until 511 have been made that leave it as it was. */
    private static UnboxPlanner used511() {
        UnboxPlanner x = SOME.make();
        int calls = 3 * SOME.n + SOME.flows.length;
        while (calls + 9 <= 511) {
            due("flow(0, 2, 8, 8) after " + calls + " calls", x.flow(0, 2, 8, 8), 3);
            due("cost(1, 1, 9) after " + calls + " calls", x.cost(1, 1, 9), 5);
            due("fix(2, 2) after " + calls + " calls", x.fix(2, 2), 0);
            due("cut(4) after " + calls + " calls", x.cut(4), -1);
            due("best() after " + calls + " calls", x.best(), 7 + 9 + 11 + 30);
            due("settledCount() after " + calls + " calls", x.settledCount(), 3);
            due("fix(2, 0) after " + calls + " calls", x.fix(2, 0), 2);
            due("cost(1, 1, 5) after " + calls + " calls", x.cost(1, 1, 5), 9);
            due("cut(3) after " + calls + " calls", x.cut(3), 3);
            calls += 9;
        }
        for (; calls < 511; calls++) {
            x.flows();
        }
        return x;
    }

    // ---- Terms ----

    private static void termsOfValuesAndPlans() {
        valuesAreNumbered();
        plansAreSums();
        costsOfAValueAre0To60();
        costsAre0AtFirst();
    }

    private static void valuesAreNumbered() {
        says("Terms", "There are n VALUES, 0 .. n-1.");
        for (int n = 2; n <= 10; n++) {
            UnboxPlanner x = new UnboxPlanner(n);
            due("cost(-1, 1, 5) of " + n, x.cost(-1, 1, 5), -1);
            due("cost(0, 1, 5) of " + n, x.cost(0, 1, 5), 0);
            due("cost(n-1, 1, 7) of " + n, x.cost(n - 1, 1, 7), 0);
            due("cost(n, 1, 5) of " + n, x.cost(n, 1, 5), -1);
            due("flow(0, n-1, 1, 1) of " + n, x.flow(0, n - 1, 1, 1), 0);
            due("flow(n-1, 0, 1, 1) of " + n, x.flow(n - 1, 0, 1, 1), 1);
            due("costOf(2^n - 1) of " + n, x.costOf((1 << n) - 1), 12);
        }
    }

    private static void plansAreSums() {
        says("Terms", "it is written as the sum of 2^v over the values that are BOXED, 0 .. 2^n - 1");
        for (int n = 2; n <= 10; n++) {
            UnboxPlanner x = new UnboxPlanner(n);
            for (int v = 0; v < n; v++) {
                x.cost(v, 1, v + 1);
            }
            for (int v = 0; v < n; v++) {
                due("costOf(2^" + v + ") of " + n, x.costOf(1 << v), v + 1);
            }
            due("costOf(0) of " + n, x.costOf(0), 0);
            due("costOf(2^n - 1) of " + n, x.costOf((1 << n) - 1), n * (n + 1) / 2);
        }
    }

    private static void costsOfAValueAre0To60() {
        says("Terms", "Every value has a cost 0 .. 60 for each form");
        for (int form = 0; form <= 1; form++) {
            for (int v = 0; v < 10; v++) {
                UnboxPlanner x = new UnboxPlanner(10);
                due("cost(" + v + ", " + form + ", 60)", x.cost(v, form, 60), 0);
                due("costOf(the form) at 60", x.costOf(form << v), 60);
                due("costOf(the other form) at 60", x.costOf(1 - form << v), 0);
                due("cost(" + v + ", " + form + ", 0)", x.cost(v, form, 0), 60);
                due("costOf(the form) at 0", x.costOf(form << v), 0);
            }
        }
    }

    private static void costsAre0AtFirst() {
        says("Terms", "0 at first");
        for (int n = 2; n <= 10; n++) {
            UnboxPlanner x = new UnboxPlanner(n);
            due("costOf(0) of a new one of " + n, x.costOf(0), 0);
            due("costOf(2^n - 1) of a new one of " + n, x.costOf((1 << n) - 1), 0);
            for (int v = 0; v < n; v++) {
                due("cost(" + v + ", 0, 60) of a new one of " + n, x.cost(v, 0, 60), 0);
                due("cost(" + v + ", 1, 60) of a new one of " + n, x.cost(v, 1, 60), 0);
            }
        }
    }

    private static void termsOfFlows() {
        atMost20Flows();
        flowsKeepTheirOrder();
        costsOfAFlowAre0To30();
        costsOfAFlowThatCount();
    }

    private static void atMost20Flows() {
        says("Terms", "There is a list of at most 20 FLOWS");
        UnboxPlanner x = new UnboxPlanner(10);
        for (int i = 0; i < 20; i++) {
            due("flow number " + i, x.flow(9, 8, 0, 1), i);
            due("costOf(512) with it", x.costOf(512), i + 1);
        }
        due("flow number 20", x.flow(9, 8, 0, 1), -4);
        due("costOf(512) after it", x.costOf(512), 20);
        due("flows() after it", x.flows(), 20);
    }

    private static void flowsKeepTheirOrder() {
        says("Terms", "in the order in which they were put in");
        UnboxPlanner x = new UnboxPlanner(2);
        for (int i = 0; i < 20; i++) {
            x.flow(i % 2, 1 - i % 2, i, i);
        }
        x.fix(0, 0);
        x.fix(1, 1);
        for (int i = 0; i < 20; i++) {
            due("saving(" + i + ")", x.saving(i), i);
        }
    }

    private static void costsOfAFlowAre0To30() {
        says("Terms", "a flow has two costs 0 .. 30: BOXING .. and UNBOXING ..");
        for (int boxing = 0; boxing <= 30; boxing += 30) {
            for (int unboxing = 0; unboxing <= 30; unboxing += 30) {
                UnboxPlanner x = new UnboxPlanner(2);
                due("flow(0, 1, " + boxing + ", " + unboxing + ")", x.flow(0, 1, boxing, unboxing), 0);
                due("costOf(2)", x.costOf(2), boxing);
                due("costOf(1)", x.costOf(1), unboxing);
            }
        }
    }

    private static void costsOfAFlowThatCount() {
        says("Terms", "BOXING, which counts if u is RAW and v is BOXED, and UNBOXING, which counts if u is BOXED "
            + "and v is RAW");
        for (int u = 0; u < 10; u++) {
            for (int v = 0; v < 10; v++) {
                if (u != v) {
                    whenItCounts(u, v);
                }
            }
        }
    }

    private static void whenItCounts(int u, int v) {
        UnboxPlanner x = new UnboxPlanner(10);
        x.flow(u, v, 29, 17);
        String of = " with the flow (" + u + ", " + v + ")";
        due("costOf(both RAW)" + of, x.costOf(0), 0);
        due("costOf(v alone BOXED)" + of, x.costOf(1 << v), 29);
        due("costOf(u alone BOXED)" + of, x.costOf(1 << u), 17);
        due("costOf(both BOXED)" + of, x.costOf(1 << u | 1 << v), 0);
        due("costOf(all but u BOXED)" + of, x.costOf(1023 - (1 << u)), 29);
        due("costOf(all but v BOXED)" + of, x.costOf(1023 - (1 << v)), 17);
    }

    private static void termsOfFixing() {
        costOfAPlanIsASum();
        allowedPlans();
        bestPlans();
        bestPlansMeetAndJoin();
    }

    private static void costOfAPlanIsASum() {
        says("Terms", "The COST of a plan is the sum of the values' costs for their forms and of the flows' costs "
            + "that count.");
        due("costOf(1023) of a new one", new UnboxPlanner(10).costOf(1023), 0);
        due("costOf(682) at the greatest", dearest().costOf(682), 10 * 60 + 20 * 30);
        due("costOf(341) where no flow's cost counts but 0", dearest().costOf(341), 10 * 60);
    }

    private static void allowedPlans() {
        says("Terms", "A plan is ALLOWED if every fixed value has the form it is fixed to.");
        for (int plan = 0; plan < 8; plan++) {
            due("isBest(" + plan + ") where none is fixed", new UnboxPlanner(3).isBest(plan), 1);
            for (int to = 0; to < 8; to++) {
                due("isBest(" + plan + ") where all are fixed as in " + to, fixedAll(3, to).isBest(plan),
                    plan == to ? 1 : 0);
            }
            for (int v = 0; v < 3; v++) {
                UnboxPlanner x = new UnboxPlanner(3);
                x.fix(v, 1);
                due("isBest(" + plan + ") where " + v + " alone is fixed", x.isBest(plan), plan >> v & 1);
            }
        }
    }

    private static void bestPlans() {
        says("Terms", "A BEST plan is an allowed plan of least cost.");
        UnboxPlanner x = new UnboxPlanner(2);
        x.cost(0, 1, 1);
        x.fix(0, 1);
        due("isBest(0): of least cost but not allowed", x.isBest(0), 0);
        due("isBest(1)", x.isBest(1), 1);
        due("isBest(3)", x.isBest(3), 1);
        x.cost(1, 1, 1);
        due("isBest(3): allowed but dearer by one", x.isBest(3), 0);
    }

    private static void bestPlansMeetAndJoin() {
        says("Terms", "The values that are BOXED in all best plans, taken as the only BOXED ones, make a best plan; "
            + "and so do those that are BOXED in at least one best plan.");
        for (State s : STATES) {
            UnboxPlanner x = s.make();
            due("isBest(fewestBoxed())", x.isBest(x.fewestBoxed()), 1);
            due("isBest(mostBoxed())", x.isBest(x.mostBoxed()), 1);
        }
        UnboxPlanner apart = new UnboxPlanner(3);
        apart.cost(0, 0, 1);
        apart.cost(1, 0, 1);
        apart.flow(0, 2, 0, 1);
        apart.flow(1, 2, 0, 1);
        apart.cost(2, 1, 2);
        due("isBest(3)", apart.isBest(3), 1);
        due("isBest(0)", apart.isBest(0), 1);
        due("isBest(7)", apart.isBest(7), 1);
        due("fewestBoxed() with best plans apart", apart.fewestBoxed(), 0);
        due("mostBoxed() with best plans apart", apart.mostBoxed(), 7);
    }

    private static void termsOfCalls() {
        noQuestionChangesAnything();
        noRefusedCallChangesAnything();
        testsInTheOrderNamed();
        goodValues();
        goodFlows();
    }

    private static void noQuestionChangesAnything() {
        says("Terms", "No question changes anything.");
        for (State s : STATES) {
            askEverything(s);
        }
    }

    /** Many refused calls on one object, of every sort, and only then a look at it. */
    private static void noRefusedCallChangesAnything() {
        says("Terms", "A refused call changes nothing.");
        for (State s : STATES) {
            UnboxPlanner x = s.make();
            int last = s.n - 1;
            for (int round = 0; round < 3; round++) {
                due("cost(n, 0, 1)", x.cost(s.n, 0, 1), -1);
                due("cost(n-1, 2, 1)", x.cost(last, 2, 1), -2);
                due("cost(n-1, 1, 61)", x.cost(last, 1, 61), -3);
                due("flow(0, n, 1, 1)", x.flow(0, s.n, 1, 1), -1);
                due("flow(n-1, n-1, 1, 1)", x.flow(last, last, 1, 1), -2);
                due("flow(0, n-1, 1, 31)", x.flow(0, last, 1, 31), -3);
                due("cut(-1)", x.cut(-1), -1);
                due("cut(flows())", x.cut(s.flows.length), -1);
                due("fix(n, 1)", x.fix(s.n, 1), -1);
                due("fix(n-1, 3)", x.fix(last, 3), -2);
                due("costOf(2^n)", x.costOf(1 << s.n), -1);
                due("settled(n)", x.settled(s.n), -1);
                due("bestWith(n, 0)", x.bestWith(s.n, 0), -1);
                due("bestWith(n-1, 2)", x.bestWith(last, 2), -2);
                due("bestTied(0, n, 0)", x.bestTied(0, s.n, 0), -1);
                due("bestTied(n-1, n-1, 0)", x.bestTied(last, last, 0), -2);
                due("saving(flows())", x.saving(s.flows.length), -1);
                due("isBest(2^n)", x.isBest(1 << s.n), -1);
            }
            String change = s.changeIn(x);
            if (!change.isEmpty()) {
                fault("the refused calls changed the object: " + change);
            }
        }
        leaves(FULL, "flow(0, 1, 1, 1) after 20", x -> x.flow(0, 1, 1, 1), -4);
        leaves(FULL, "bestWith(0, 1) when fixed to 0", x -> x.bestWith(0, 1), -3);
    }

    private static void testsInTheOrderNamed() {
        says("Terms", "In every method the tests are made in the order named");
        for (State s : STATES) {
            costInOrder(s);
            flowInOrder(s);
            fixInOrder(s);
            bestWithInOrder(s);
            bestTiedInOrder(s);
        }
    }

    private static void goodValues() {
        says("Terms", "a value's number is good if it is 0 .. n-1");
        for (int n = 2; n <= 10; n++) {
            for (int v = 0; v < n; v++) {
                goodValue(n, v, true);
            }
            for (int v : beyond(0, n - 1)) {
                goodValue(n, v, false);
            }
        }
    }

    private static void goodFlows() {
        says("Terms", "a flow's if there is such a flow");
        for (int count = 0; count <= 20; count++) {
            for (int f = 0; f < count; f++) {
                due("saving(" + f + ") of " + count, withFlows(count).saving(f), 0);
                due("cut(" + f + ") of " + count, withFlows(count).cut(f), count - 1);
            }
            for (int f : beyond(0, count - 1)) {
                due("saving(" + f + ") of " + count, withFlows(count).saving(f), -1);
                due("cut(" + f + ") of " + count, withFlows(count).cut(f), -1);
            }
            UnboxPlanner x = withFlows(count);
            x.cut(0);
            due("saving(the last number before a cut) of " + count, x.saving(count - 1), -1);
            due("cut(the last number before a cut) of " + count, x.cut(count - 1), -1);
        }
    }

    private static void goodValue(int n, int v, boolean good) {
        int other = v == 0 ? 1 : 0;
        String of = " of " + v + " among " + n;
        UnboxPlanner x = new UnboxPlanner(n);
        due("cost" + of, x.cost(v, 0, 0), good ? 0 : -1);
        due("flow" + of, x.flow(v, other, 0, 0), good ? 0 : -1);
        due("flow to" + of, x.flow(other, v, 0, 0), good ? 1 : -1);
        due("fix" + of, x.fix(v, 2), good ? 2 : -1);
        due("settled" + of, x.settled(v), good ? 2 : -1);
        due("bestWith" + of, x.bestWith(v, 1), good ? 0 : -1);
        due("bestTied" + of, x.bestTied(v, other, 0), good ? 0 : -1);
        due("bestTied with" + of, x.bestTied(other, v, 1), good ? 0 : -1);
    }

    /** Asked twice on one object the answer is the same; asked once it leaves the object as it was. */
    private static void asked(State s, String call, Call c) {
        UnboxPlanner x = s.make();
        int once = c.on(x);
        due(call + " a second time", c.on(x), once);
        leaves(s, call, c, once);
    }

    private static void askEverything(State s) {
        asked(s, "values()", x -> x.values());
        asked(s, "flows()", x -> x.flows());
        asked(s, "best()", x -> x.best());
        asked(s, "fewestBoxed()", x -> x.fewestBoxed());
        asked(s, "mostBoxed()", x -> x.mostBoxed());
        asked(s, "settledCount()", x -> x.settledCount());
        for (int plan : around(0, (1 << s.n) - 1)) {
            asked(s, "costOf(" + plan + ")", x -> x.costOf(plan));
            asked(s, "isBest(" + plan + ")", x -> x.isBest(plan));
        }
        for (int f = -1; f <= s.flows.length; f++) {
            int flow = f;
            asked(s, "saving(" + f + ")", x -> x.saving(flow));
        }
        for (int a = -1; a <= s.n; a++) {
            int u = a;
            asked(s, "settled(" + u + ")", x -> x.settled(u));
            for (int b = -1; b <= s.n; b++) {
                int v = b;
                asked(s, "bestWith(" + u + ", " + v + ")", x -> x.bestWith(u, v));
                asked(s, "bestTied(" + u + ", " + v + ", 0)", x -> x.bestTied(u, v, 0));
                asked(s, "bestTied(" + u + ", " + v + ", 1)", x -> x.bestTied(u, v, 1));
            }
        }
    }

    private static void costInOrder(State s) {
        for (int v : around(0, s.n - 1)) {
            for (int form : around(0, 1)) {
                for (int cost : around(0, 60)) {
                    int want = first(!in(v, 0, s.n - 1), !in(form, 0, 1), !in(cost, 0, 60));
                    if (want < 0) {
                        leaves(s, "cost(" + v + ", " + form + ", " + cost + ")", x -> x.cost(v, form, cost), want);
                    }
                }
            }
        }
    }

    private static void flowInOrder(State s) {
        for (int u : around(0, s.n - 1)) {
            for (int v : around(0, s.n - 1)) {
                for (int boxing : around(0, 30)) {
                    for (int unboxing : around(0, 30)) {
                        int want = first(!in(u, 0, s.n - 1) || !in(v, 0, s.n - 1), u == v,
                            !in(boxing, 0, 30) || !in(unboxing, 0, 30), s.flows.length == 20);
                        if (want < 0) {
                            leaves(s, "flow(" + u + ", " + v + ", " + boxing + ", " + unboxing + ")",
                                x -> x.flow(u, v, boxing, unboxing), want);
                        }
                    }
                }
            }
        }
    }

    private static void fixInOrder(State s) {
        for (int v : around(0, s.n - 1)) {
            for (int form : around(0, 2)) {
                int want = first(!in(v, 0, s.n - 1), !in(form, 0, 2));
                if (want < 0) {
                    leaves(s, "fix(" + v + ", " + form + ")", x -> x.fix(v, form), want);
                }
            }
        }
    }

    private static void bestWithInOrder(State s) {
        for (int v : around(0, s.n - 1)) {
            for (int form : around(0, 1)) {
                boolean good = in(v, 0, s.n - 1);
                int want = first(!good, !in(form, 0, 1), good && s.fixed[v] == 1 - form);
                if (want < 0) {
                    leaves(s, "bestWith(" + v + ", " + form + ")", x -> x.bestWith(v, form), want);
                }
            }
        }
    }

    /** Where u and v are the same number, that no plan gives them different forms is a fault as well. */
    private static void bestTiedInOrder(State s) {
        for (int u : around(0, s.n - 1)) {
            for (int v : around(0, s.n - 1)) {
                int want = first(!in(u, 0, s.n - 1) || !in(v, 0, s.n - 1), u == v);
                if (want < 0) {
                    leaves(s, "bestTied(" + u + ", " + v + ", 0)", x -> x.bestTied(u, v, 0), want);
                }
            }
        }
    }

    // ---- Promises 1 to 8: the state ----

    private static void promises1And2() {
        below2Becomes2();
        above10Becomes10();
        valuesIsN();
        valuesAnswersN();
    }

    private static void below2Becomes2() {
        says("Promise 1", "below 2 becomes 2");
        for (int asked : new int[] {1, 0, -1, -2, -10, 5 - 256, 5 - 65536, LOW + 5, LOW + 1, LOW}) {
            madeFor(asked, 2);
        }
    }

    private static void above10Becomes10() {
        says("Promise 1", "above 10 becomes 10");
        for (int asked : new int[] {11, 12, 31, 32, 33, 5 + 256, 5 + 65536, HIGH - 1, HIGH}) {
            madeFor(asked, 10);
        }
    }

    private static void valuesIsN() {
        says("Promise 1", "values is n");
        for (int n = 2; n <= 10; n++) {
            madeFor(n, n);
        }
    }

    private static void valuesAnswersN() {
        says("Promise 2", "n.");
        for (State s : STATES) {
            leaves(s, "values()", x -> x.values(), s.n);
        }
    }

    private static void madeFor(int asked, int n) {
        UnboxPlanner x = new UnboxPlanner(asked);
        String of = " of a new one for " + asked;
        due("values()" + of, x.values(), n);
        due("flows()" + of, x.flows(), 0);
        due("best()" + of, x.best(), 0);
        due("mostBoxed()" + of, x.mostBoxed(), (1 << n) - 1);
        due("isBest(2^n)" + of, x.isBest(1 << n), -1);
        due("settledCount()" + of, x.settledCount(), 0);
        due("fix(n-1, 1)" + of, x.fix(n - 1, 1), 2);
        due("fix(n, 1)" + of, x.fix(n, 1), -1);
        due("cost(n-1, 1, 60)" + of, x.cost(n - 1, 1, 60), 0);
        due("best() once the last value costs 60" + of, x.best(), 60);
    }

    private static void promise3() {
        costRefusesAValue();
        costRefusesAForm();
        costRefusesACost();
        costAnswersTheCostBefore();
    }

    private static void costRefusesAValue() {
        says("Promise 3", "-1 if v is not good");
        for (State s : STATES) {
            for (int v : beyond(0, s.n - 1)) {
                leaves(s, "cost(" + v + ", 0, 1)", x -> x.cost(v, 0, 1), -1);
                leaves(s, "cost(" + v + ", 1, 60)", x -> x.cost(v, 1, 60), -1);
            }
        }
    }

    private static void costRefusesAForm() {
        says("Promise 3", "-2 if form is not 0 or 1");
        for (State s : STATES) {
            for (int form : beyond(0, 1)) {
                leaves(s, "cost(0, " + form + ", 1)", x -> x.cost(0, form, 1), -2);
                leaves(s, "cost(n-1, " + form + ", 60)", x -> x.cost(s.n - 1, form, 60), -2);
            }
        }
    }

    private static void costRefusesACost() {
        says("Promise 3", "-3 if cost is not in 0 .. 60");
        for (State s : STATES) {
            for (int cost : beyond(0, 60)) {
                leaves(s, "cost(0, 0, " + cost + ")", x -> x.cost(0, 0, cost), -3);
                leaves(s, "cost(n-1, 1, " + cost + ")", x -> x.cost(s.n - 1, 1, cost), -3);
            }
        }
    }

    private static void costAnswersTheCostBefore() {
        says("Promise 3", "otherwise answers the cost before");
        UnboxPlanner x = new UnboxPlanner(2);
        due("cost(1, 1, 0), the first", x.cost(1, 1, 0), 0);
        due("cost(1, 1, 60)", x.cost(1, 1, 60), 0);
        due("cost(1, 1, 60), the same again", x.cost(1, 1, 60), 60);
        due("cost(1, 1, 61), refused", x.cost(1, 1, 61), -3);
        due("cost(1, 1, 59) after a refused one", x.cost(1, 1, 59), 60);
        due("cost(1, 1, 1)", x.cost(1, 1, 1), 59);
        due("cost(1, 1, 0)", x.cost(1, 1, 0), 1);
        due("cost(1, 0, 0), the other form", x.cost(1, 0, 0), 0);
        due("cost(0, 1, 0), the other value", x.cost(0, 1, 0), 0);
        for (int cost = 0; cost <= 60; cost++) {
            x.cost(0, 0, cost);
            due("cost(0, 0, " + cost + ") again", x.cost(0, 0, cost), cost);
        }
    }

    private static void promise4() {
        flowRefusesAValue();
        flowRefusesTheSameValue();
        flowRefusesACost();
        flowRefusesThe21st();
        flowAnswersItsNumber();
        flowGoesToTheEnd();
    }

    private static void flowRefusesAValue() {
        says("Promise 4", "-1 if u or v is not good");
        for (State s : STATES) {
            for (int bad : beyond(0, s.n - 1)) {
                leaves(s, "flow(" + bad + ", 0, 1, 1)", x -> x.flow(bad, 0, 1, 1), -1);
                leaves(s, "flow(n-1, " + bad + ", 1, 1)", x -> x.flow(s.n - 1, bad, 1, 1), -1);
                leaves(s, "flow(" + bad + ", the same, 1, 1)", x -> x.flow(bad, bad, 1, 1), -1);
            }
        }
    }

    private static void flowRefusesTheSameValue() {
        says("Promise 4", "-2 if they are the same");
        for (State s : STATES) {
            for (int i = 0; i < s.n; i++) {
                int v = i;
                leaves(s, "flow(" + v + ", " + v + ", 0, 0)", x -> x.flow(v, v, 0, 0), -2);
                leaves(s, "flow(" + v + ", " + v + ", 31, 30)", x -> x.flow(v, v, 31, 30), -2);
            }
        }
    }

    private static void flowRefusesACost() {
        says("Promise 4", "-3 if boxing or unboxing is not in 0 .. 30");
        for (State s : STATES) {
            for (int cost : beyond(0, 30)) {
                leaves(s, "flow(0, n-1, " + cost + ", 0)", x -> x.flow(0, s.n - 1, cost, 0), -3);
                leaves(s, "flow(0, n-1, 30, " + cost + ")", x -> x.flow(0, s.n - 1, 30, cost), -3);
                leaves(s, "flow(1, 0, both " + cost + ")", x -> x.flow(1, 0, cost, cost), -3);
            }
        }
    }

    private static void flowRefusesThe21st() {
        says("Promise 4", "-4 if there are 20 flows");
        leaves(FULL, "flow(0, 9, 0, 0)", x -> x.flow(0, 9, 0, 0), -4);
        leaves(FULL, "flow(9, 0, 30, 30)", x -> x.flow(9, 0, 30, 30), -4);
        due("flow(0, 1, 0, 0) after 19", withFlows(19).flow(0, 1, 0, 0), 19);
        due("flow(0, 1, 0, 0) after 20", withFlows(20).flow(0, 1, 0, 0), -4);
        UnboxPlanner full = withFlows(20);
        for (int i = 0; i < 5; i++) {
            due("a flow more", full.flow(1, 0, 0, 0), -4);
        }
        due("cut(0) after the refused ones", full.cut(0), 19);
        due("flow(1, 0, 0, 0) after a cut", full.flow(1, 0, 0, 0), 19);
        due("flow(1, 0, 0, 0) after that", full.flow(1, 0, 0, 0), -4);
    }

    private static void flowAnswersItsNumber() {
        says("Promise 4", "otherwise answers its number (0 for the first)");
        for (int count = 0; count < 20; count++) {
            due("flow(1, 0, 0, 30) after " + count, withFlows(count).flow(1, 0, 0, 30), count);
        }
        UnboxPlanner x = new UnboxPlanner(2);
        due("flow(0, 0, 1, 1), refused", x.flow(0, 0, 1, 1), -2);
        due("flow(0, 1, 1, 1), the first that is put in", x.flow(0, 1, 1, 1), 0);
    }

    private static void flowGoesToTheEnd() {
        says("Promise 4", "Puts a flow at the end of the list.");
        UnboxPlanner x = withFlows(19);
        x.cut(0);
        x.flow(0, 1, 1, 1);
        x.flow(0, 1, 30, 30);
        x.fix(0, 0);
        x.fix(1, 1);
        due("saving(18)", x.saving(18), 1);
        due("saving(19)", x.saving(19), 30);
    }

    private static void promise5() {
        cutRefusesAFlow();
        cutGivesNewNumbers();
        cutAnswersHowManyAreLeft();
    }

    private static void cutRefusesAFlow() {
        says("Promise 5", "-1 if flow is not good");
        for (State s : STATES) {
            for (int flow : beyond(0, s.flows.length - 1)) {
                leaves(s, "cut(" + flow + ")", x -> x.cut(flow), -1);
            }
        }
    }

    private static void cutGivesNewNumbers() {
        says("Promise 5", "Takes a flow out; later ones get numbers less by one.");
        for (State s : STATES) {
            for (int gone = 0; gone < s.flows.length; gone++) {
                cutOne(s, gone);
            }
        }
    }

    private static void cutAnswersHowManyAreLeft() {
        says("Promise 5", "otherwise answers how many are left");
        UnboxPlanner x = withFlows(20);
        for (int left = 19; left >= 0; left--) {
            due("cut(the last)", x.cut(left), left);
        }
        due("cut(0) when none is left", x.cut(0), -1);
        due("flows() after it", x.flows(), 0);
        due("flow(0, 1, 30, 30) after it", x.flow(0, 1, 30, 30), 0);
        due("cut(0), the only one", x.cut(0), 0);
    }

    private static void cutOne(State s, int gone) {
        UnboxPlanner x = s.make();
        due("cut(" + gone + ")", x.cut(gone), s.flows.length - 1);
        int[][] left = new int[s.flows.length - 1][];
        for (int i = 0; i < left.length; i++) {
            left[i] = s.flows[i < gone ? i : i + 1];
        }
        String change = new State(s.costs, s.fixed, left).changeIn(x);
        if (!change.isEmpty()) {
            fault("after cut(" + gone + ") " + change);
        }
    }

    private static void promise6() {
        fixRefusesAValue();
        fixRefusesAForm();
        fixAnswersTheFormBefore();
        fixOrFree();
    }

    private static void fixRefusesAValue() {
        says("Promise 6", "-1 if v is not good");
        for (State s : STATES) {
            for (int v : beyond(0, s.n - 1)) {
                for (int form = 0; form <= 2; form++) {
                    int to = form;
                    leaves(s, "fix(" + v + ", " + to + ")", x -> x.fix(v, to), -1);
                }
            }
        }
    }

    private static void fixRefusesAForm() {
        says("Promise 6", "-2 if form is not in 0 .. 2");
        for (State s : STATES) {
            for (int form : beyond(0, 2)) {
                leaves(s, "fix(0, " + form + ")", x -> x.fix(0, form), -2);
                leaves(s, "fix(n-1, " + form + ")", x -> x.fix(s.n - 1, form), -2);
            }
        }
    }

    private static void fixAnswersTheFormBefore() {
        says("Promise 6", "otherwise answers what it was fixed to before (2 if to none)");
        for (int v = 0; v < 10; v++) {
            due("fix(" + v + ", 2) of a new one", new UnboxPlanner(10).fix(v, 2), 2);
        }
        for (int before = 0; before <= 2; before++) {
            for (int then = 0; then <= 2; then++) {
                UnboxPlanner x = new UnboxPlanner(2);
                x.fix(1, before);
                due("fix(1, " + then + ") after " + before, x.fix(1, then), before);
                due("fix(1, 3), refused", x.fix(1, 3), -2);
                due("fix(1, 2) after " + then, x.fix(1, 2), then);
                due("fix(0, 2), the other value", x.fix(0, 2), 2);
            }
        }
    }

    private static void fixOrFree() {
        says("Promise 6", "Fixes a value to a form, or frees it (FREE 2).");
        UnboxPlanner x = new UnboxPlanner(2);
        x.cost(0, 1, 60);
        x.fix(0, 1);
        due("best() when fixed to the dear form", x.best(), 60);
        x.fix(0, 0);
        due("best() when fixed to the other form", x.best(), 0);
        x.fix(0, 1);
        x.fix(0, 2);
        due("best() when freed", x.best(), 0);
        due("bestWith(0, 1) when freed", x.bestWith(0, 1), 60);
    }

    private static void flowsAnswersHowMany() {
        says("Promise 7", "How many flows there are.");
        for (int count = 0; count <= 20; count++) {
            due("flows() of " + count, withFlows(count).flows(), count);
        }
        due("flows() after a flow too many", withFlows(21).flows(), 20);
        UnboxPlanner x = withFlows(1);
        x.cut(0);
        x.cut(0);
        due("flows() after a cut too many", x.flows(), 0);
        x.flow(0, 1, 31, 0);
        x.flow(0, 2, 0, 0);
        due("flows() after refused ones", x.flows(), 0);
    }

    private static void promise8() {
        costOfRefusesAPlan();
        costOfAnyPlan();
    }

    private static void costOfRefusesAPlan() {
        says("Promise 8", "-1 if plan is not in 0 .. 2^n - 1");
        for (State s : STATES) {
            for (int plan : beyond(0, (1 << s.n) - 1)) {
                leaves(s, "costOf(" + plan + ")", x -> x.costOf(plan), -1);
            }
        }
        for (int n = 2; n <= 10; n++) {
            UnboxPlanner x = new UnboxPlanner(n);
            due("costOf(-1) of " + n, x.costOf(-1), -1);
            due("costOf(0) of " + n, x.costOf(0), 0);
            due("costOf(2^n - 1) of " + n, x.costOf((1 << n) - 1), 0);
            due("costOf(2^n) of " + n, x.costOf(1 << n), -1);
        }
    }

    private static void costOfAnyPlan() {
        says("Promise 8", "The cost of a plan, allowed or not");
        for (State s : STATES) {
            for (int i = 0; i < 1 << s.n; i++) {
                int plan = i;
                leaves(s, "costOf(" + plan + ")", x -> x.costOf(plan), s.costOf(plan, 0));
            }
        }
    }

    // ---- Promises 9 to 17: the questions ----

    private static void bestAnswersTheCost() {
        says("Promise 9", "The cost of a best plan.");
        for (int n = 2; n <= 10; n++) {
            due("best() of a new one of " + n, new UnboxPlanner(n).best(), 0);
        }
        due("best() at the greatest", dearest().best(), 1200);
        UnboxPlanner x = dearest();
        x.fix(0, 2);
        due("best() with one freed", x.best(), 600);
        for (int i = 0; i < 20; i++) {
            x.cut(0);
        }
        due("best() with no flow left", x.best(), 600);
    }

    private static void promises10And11() {
        fewestBoxedAnswersAPlan();
        mostBoxedAnswersAPlan();
    }

    private static void fewestBoxedAnswersAPlan() {
        says("Promise 10", "The best plan whose BOXED values are BOXED in all best plans.");
        for (int n = 2; n <= 10; n++) {
            due("fewestBoxed() where every plan is best, of " + n, new UnboxPlanner(n).fewestBoxed(), 0);
            due("fewestBoxed() where all are fixed to BOXED, of " + n, fixedAll(n, (1 << n) - 1).fewestBoxed(),
                (1 << n) - 1);
            due("fewestBoxed() where all are fixed to RAW, of " + n, fixedAll(n, 0).fewestBoxed(), 0);
        }
        due("fewestBoxed() at the greatest cost", dearest().fewestBoxed(), 682);
        due("fewestBoxed() with two best plans", twoBest().fewestBoxed(), 512);
    }

    private static void mostBoxedAnswersAPlan() {
        says("Promise 11", "The best plan whose BOXED values are those that are BOXED in at least one best plan.");
        for (int n = 2; n <= 10; n++) {
            due("mostBoxed() where every plan is best, of " + n, new UnboxPlanner(n).mostBoxed(), (1 << n) - 1);
            due("mostBoxed() where all are fixed to BOXED, of " + n, fixedAll(n, (1 << n) - 1).mostBoxed(),
                (1 << n) - 1);
            due("mostBoxed() where all are fixed to RAW, of " + n, fixedAll(n, 0).mostBoxed(), 0);
        }
        due("mostBoxed() at the greatest cost", dearest().mostBoxed(), 682);
        due("mostBoxed() with two best plans", twoBest().mostBoxed(), 1023);
    }

    /** The values 0 .. 8 bound to each other, so that they are RAW together or BOXED together; 9 is BOXED. */
    private static UnboxPlanner twoBest() {
        UnboxPlanner x = new UnboxPlanner(10);
        for (int v = 0; v < 8; v++) {
            x.flow(v, v + 1, 1, 1);
        }
        x.cost(9, 0, 1);
        return x;
    }

    private static void promise12() {
        settledRefusesAValue();
        settledAnswersTheForm();
    }

    private static void settledRefusesAValue() {
        says("Promise 12", "-1 if v is not good");
        for (State s : STATES) {
            for (int v : beyond(0, s.n - 1)) {
                leaves(s, "settled(" + v + ")", x -> x.settled(v), -1);
            }
        }
    }

    private static void settledAnswersTheForm() {
        says("Promise 12", "0 if the value is RAW in every best plan, 1 if it is BOXED in every best plan, 2 "
            + "otherwise");
        for (int v = 0; v < 10; v++) {
            due("settled(" + v + ") of a new one", new UnboxPlanner(10).settled(v), 2);
            due("settled(" + v + ") with two best plans", twoBest().settled(v), v == 9 ? 1 : 2);
            due("settled(" + v + ") where all are fixed", fixedAll(10, 682).settled(v), v % 2);
            for (int form = 0; form <= 1; form++) {
                UnboxPlanner x = new UnboxPlanner(10);
                x.cost(v, 1 - form, 1);
                due("settled(" + v + ") where the other form is dearer by one", x.settled(v), form);
                x.cost(v, form, 1);
                due("settled(" + v + ") where both forms cost the same", x.settled(v), 2);
                x.fix(v, form);
                due("settled(" + v + ") where it alone is fixed", x.settled(v), form);
            }
        }
    }

    private static void promise13() {
        bestWithRefusesAValue();
        bestWithRefusesAForm();
        bestWithRefusesTheOtherForm();
        bestWithAnswersTheCost();
    }

    private static void bestWithRefusesAValue() {
        says("Promise 13", "-1 if v is not good");
        for (State s : STATES) {
            for (int v : beyond(0, s.n - 1)) {
                leaves(s, "bestWith(" + v + ", 0)", x -> x.bestWith(v, 0), -1);
                leaves(s, "bestWith(" + v + ", 1)", x -> x.bestWith(v, 1), -1);
            }
        }
    }

    private static void bestWithRefusesAForm() {
        says("Promise 13", "-2 if form is not 0 or 1");
        for (State s : STATES) {
            for (int form : beyond(0, 1)) {
                for (int i = 0; i < s.n; i++) {
                    int v = i;
                    leaves(s, "bestWith(" + v + ", " + form + ")", x -> x.bestWith(v, form), -2);
                }
            }
        }
    }

    private static void bestWithRefusesTheOtherForm() {
        says("Promise 13", "-3 if the value is fixed to the other form");
        for (int v = 0; v < 10; v++) {
            for (int form = 0; form <= 1; form++) {
                UnboxPlanner x = new UnboxPlanner(10);
                x.fix(v, form);
                due("bestWith(" + v + ", the other form)", x.bestWith(v, 1 - form), -3);
                due("bestWith(" + v + ", the form)", x.bestWith(v, form), 0);
                due("bestWith(another value, the other form)", x.bestWith((v + 1) % 10, 1 - form), 0);
                x.fix(v, 2);
                due("bestWith(" + v + ", the other form) when freed", x.bestWith(v, 1 - form), 0);
            }
        }
    }

    private static void bestWithAnswersTheCost() {
        says("Promise 13", "The least cost of an allowed plan in which the value has the form.");
        due("bestWith(0, 0) at the greatest", dearest().bestWith(0, 0), 1200);
        due("bestWith(9, 1) at the greatest", dearest().bestWith(9, 1), 1200);
        due("bestWith(0, 1) with two best plans", twoBest().bestWith(0, 1), 0);
        due("bestWith(9, 0) with two best plans", twoBest().bestWith(9, 0), 1);
        for (int form = 0; form <= 1; form++) {
            UnboxPlanner x = new UnboxPlanner(10);
            for (int v = 0; v < 10; v++) {
                x.cost(v, 1 - form, 1);
            }
            for (int v = 0; v < 10; v++) {
                due("bestWith(" + v + ", the form) where all others cost more", x.bestWith(v, form), 0);
                due("bestWith(" + v + ", the other form), dearer by one", x.bestWith(v, 1 - form), 1);
            }
        }
    }

    private static void promise14() {
        bestTiedRefusesAValue();
        bestTiedSameOrDifferent();
        bestTiedWithoutAPlan();
        bestTiedOfOneValue();
    }

    private static void bestTiedRefusesAValue() {
        says("Promise 14", "-1 if u or v is not good");
        for (State s : STATES) {
            for (int bad : beyond(0, s.n - 1)) {
                for (int same = 0; same <= 1; same++) {
                    int tie = same;
                    leaves(s, "bestTied(" + bad + ", 0, " + tie + ")", x -> x.bestTied(bad, 0, tie), -1);
                    leaves(s, "bestTied(n-1, " + bad + ", " + tie + ")", x -> x.bestTied(s.n - 1, bad, tie), -1);
                    leaves(s, "bestTied(" + bad + ", the same, " + tie + ")", x -> x.bestTied(bad, bad, tie), -1);
                }
            }
        }
    }

    private static void bestTiedSameOrDifferent() {
        says("Promise 14", "the same form (same not 0) or different forms (same 0)");
        UnboxPlanner x = new UnboxPlanner(2);
        x.cost(0, 1, 60);
        x.cost(1, 0, 59);
        for (int same : beyond(0, 0)) {
            due("bestTied(0, 1, " + same + ")", x.bestTied(0, 1, same), 59);
            due("bestTied(1, 0, " + same + ")", x.bestTied(1, 0, same), 59);
        }
        due("bestTied(0, 1, 0)", x.bestTied(0, 1, 0), 0);
        due("bestTied(1, 0, 0)", x.bestTied(1, 0, 0), 0);
    }

    private static void bestTiedWithoutAPlan() {
        says("Promise 14", "-2 if there is no such allowed plan");
        for (int forms = 0; forms < 9; forms++) {
            tiedAsFixed(forms % 3, forms / 3);
        }
        due("bestTied(0, 1, 0) at the greatest", dearest().bestTied(0, 1, 0), 1200);
        due("bestTied(0, 1, 1) at the greatest", dearest().bestTied(0, 1, 1), -2);
    }

    private static void bestTiedOfOneValue() {
        says("Promise 14", "u and v may be the same value.");
        for (int v = 0; v < 10; v++) {
            for (int same : beyond(0, 0)) {
                due("bestTied(" + v + ", " + v + ", " + same + ")", twoBest().bestTied(v, v, same), 0);
                due("the same at the greatest", dearest().bestTied(v, v, same), 1200);
            }
            due("bestTied(" + v + ", " + v + ", 0)", twoBest().bestTied(v, v, 0), -2);
            due("the same at the greatest", dearest().bestTied(v, v, 0), -2);
        }
    }

    private static void tiedAsFixed(int first, int last) {
        UnboxPlanner x = new UnboxPlanner(10);
        x.fix(0, first);
        x.fix(9, last);
        boolean bothFixed = first != 2 && last != 2;
        String of = " fixed to " + first + " and " + last;
        due("bestTied(0, 9, 0)" + of, x.bestTied(0, 9, 0), bothFixed && first == last ? -2 : 0);
        due("bestTied(9, 0, 1)" + of, x.bestTied(9, 0, 1), bothFixed && first != last ? -2 : 0);
    }

    private static void promise15() {
        savingRefusesAFlow();
        savingAnswersTheDifference();
    }

    private static void savingRefusesAFlow() {
        says("Promise 15", "-1 if flow is not good");
        for (State s : STATES) {
            for (int flow : beyond(0, s.flows.length - 1)) {
                leaves(s, "saving(" + flow + ")", x -> x.saving(flow), -1);
            }
        }
    }

    private static void savingAnswersTheDifference() {
        says("Promise 15", "By how much the cost of a best plan would be less without the flow");
        for (int i = 0; i < 20; i++) {
            due("saving(" + i + ") at the greatest", dearest().saving(i), 30);
            due("saving(" + i + ") of one that never counts in a best plan", withFlows(20).saving(i), 0);
        }
        UnboxPlanner x = new UnboxPlanner(2);
        x.cost(0, 0, 60);
        x.cost(1, 1, 29);
        x.flow(0, 1, 0, 30);
        due("saving(0) where the way around it is cheaper by one", x.saving(0), 29);
        x.cost(1, 1, 31);
        due("saving(0) where the way around it is dearer by one", x.saving(0), 30);
        x.cut(0);
        due("saving(0) once it is cut", x.saving(0), -1);
    }

    private static void promise16() {
        isBestRefusesAPlan();
        isBestAnswersYesOrNo();
    }

    private static void isBestRefusesAPlan() {
        says("Promise 16", "-1 if plan is not in 0 .. 2^n - 1");
        for (State s : STATES) {
            for (int plan : beyond(0, (1 << s.n) - 1)) {
                leaves(s, "isBest(" + plan + ")", x -> x.isBest(plan), -1);
            }
        }
        for (int n = 2; n <= 10; n++) {
            UnboxPlanner x = new UnboxPlanner(n);
            due("isBest(-1) of " + n, x.isBest(-1), -1);
            due("isBest(0) of " + n, x.isBest(0), 1);
            due("isBest(2^n - 1) of " + n, x.isBest((1 << n) - 1), 1);
            due("isBest(2^n) of " + n, x.isBest(1 << n), -1);
        }
    }

    private static void isBestAnswersYesOrNo() {
        says("Promise 16", "1 if the plan is a best plan, otherwise 0");
        UnboxPlanner dear = dearest();
        UnboxPlanner two = twoBest();
        for (int plan = 1023; plan >= 682; plan--) {
            due("isBest(" + plan + ") at the greatest", dear.isBest(plan), plan == 682 ? 1 : 0);
            due("isBest(" + plan + ") with two best plans", two.isBest(plan), plan == 1023 ? 1 : 0);
        }
        due("isBest(512) with two best plans", two.isBest(512), 1);
        due("isBest(511) with two best plans", two.isBest(511), 0);
        due("isBest(0) with two best plans", two.isBest(0), 0);
        due("isBest(513) with two best plans", two.isBest(513), 0);
    }

    private static void settledCountAnswersHowMany() {
        says("Promise 17", "How many values have the same form in all best plans.");
        for (int n = 2; n <= 10; n++) {
            due("settledCount() of a new one of " + n, new UnboxPlanner(n).settledCount(), 0);
            UnboxPlanner byFixing = new UnboxPlanner(n);
            UnboxPlanner byCost = new UnboxPlanner(n);
            for (int v = 0; v < n; v++) {
                byFixing.fix(v, v % 2);
                due("settledCount() of " + n + " with 0 .. " + v + " fixed", byFixing.settledCount(), v + 1);
                byCost.cost(v, v % 2, 1);
                due("settledCount() of " + n + " with 0 .. " + v + " decided by cost", byCost.settledCount(), v + 1);
            }
        }
        due("settledCount() with two best plans", twoBest().settledCount(), 1);
        due("settledCount() at the greatest", dearest().settledCount(), 10);
    }
}
