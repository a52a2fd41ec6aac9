/** Each promise by hand: ordinary inputs, the edges that the document names, and wrong inputs. */
public final class PromisesTest {
    private static final int LOW = Integer.MIN_VALUE;
    private static final int HIGH = Integer.MAX_VALUE;
    private static int promise = 0;
    private static int wrong = 0;

    private static void due(String call, int got, int want) {
        if (got != want) {
            wrong++;
            System.out.println("promise " + promise + ": " + call + " answered " + got + ", due is " + want);
        }
    }

    public static void main(String[] args) {
        newObject();
        cost();
        costIsRefused();
        flow();
        flowIsRefused();
        cut();
        fix();
        flows();
        costOf();
        best();
        fewestAndMostBoxed();
        oneBestPlan();
        settled();
        bestWith();
        bestTied();
        saving();
        isBest();
        settledCount();
        extremes();
        questionsChangeNothing();
        objectsAreApart();
        System.out.println(wrong == 0 ? "all promises hold" : wrong + " answers are not as due");
        if (wrong != 0) {
            System.exit(1);
        }
    }

    private static void newObject() {
        int[] asked = {LOW, -1, 0, 1, 2, 3, 9, 10, 11, 1000, HIGH};
        int[] made = {2, 2, 2, 2, 2, 3, 9, 10, 10, 10, 10};
        for (int i = 0; i < asked.length; i++) {
            UnboxPlanner x = new UnboxPlanner(asked[i]);
            int n = made[i];
            promise = 2;
            due("values() of " + asked[i], x.values(), n);
            promise = 1;
            due("flows() of a new one", x.flows(), 0);
            due("best() of a new one", x.best(), 0);
            due("costOf(all boxed) of a new one", x.costOf((1 << n) - 1), 0);
            due("costOf(2^n) of a new one", x.costOf(1 << n), -1);
            due("fix(n, 0)", x.fix(n, 0), -1);
            for (int v = 0; v < n; v++) {
                due("fix(" + v + ", 2) of a new one", x.fix(v, 2), 2);
                due("cost(" + v + ", 0, 0) of a new one", x.cost(v, 0, 0), 0);
                due("cost(" + v + ", 1, 0) of a new one", x.cost(v, 1, 0), 0);
            }
        }
    }

    private static void cost() {
        promise = 3;
        UnboxPlanner x = new UnboxPlanner(3);
        due("cost(1, 0, 60)", x.cost(1, 0, 60), 0);
        due("cost(1, 1, 7)", x.cost(1, 1, 7), 0);
        due("cost(1, 0, 0)", x.cost(1, 0, 0), 60);
        due("cost(1, 0, 5)", x.cost(1, 0, 5), 0);
        due("cost(1, 1, 7) again", x.cost(1, 1, 7), 7);
        due("cost(2, 1, 9)", x.cost(2, 1, 9), 0);
        due("costOf(0)", x.costOf(0), 5);
        due("costOf(2)", x.costOf(2), 7);
        due("costOf(4)", x.costOf(4), 14);
    }

    private static void costIsRefused() {
        promise = 3;
        UnboxPlanner x = new UnboxPlanner(3);
        x.cost(0, 0, 4);
        due("cost(-1, 0, 1)", x.cost(-1, 0, 1), -1);
        due("cost(3, 0, 1)", x.cost(3, 0, 1), -1);
        due("cost(LOW, 0, 1)", x.cost(LOW, 0, 1), -1);
        due("cost(HIGH, 0, 1)", x.cost(HIGH, 0, 1), -1);
        due("cost(3, 2, 61): v is looked at first", x.cost(3, 2, 61), -1);
        due("cost(0, -1, 1)", x.cost(0, -1, 1), -2);
        due("cost(0, 2, 1)", x.cost(0, 2, 1), -2);
        due("cost(0, HIGH, 1)", x.cost(0, HIGH, 1), -2);
        due("cost(0, 2, 61): form is looked at before cost", x.cost(0, 2, 61), -2);
        due("cost(0, 0, -1)", x.cost(0, 0, -1), -3);
        due("cost(0, 0, 61)", x.cost(0, 0, 61), -3);
        due("cost(0, 1, LOW)", x.cost(0, 1, LOW), -3);
        due("cost(0, 1, HIGH)", x.cost(0, 1, HIGH), -3);
        due("cost(0, 0, 4) after refusals", x.cost(0, 0, 4), 4);
        due("cost(0, 1, 0) after refusals", x.cost(0, 1, 0), 0);
    }

    private static void flow() {
        promise = 4;
        UnboxPlanner x = new UnboxPlanner(4);
        due("flow(0, 3, 30, 0)", x.flow(0, 3, 30, 0), 0);
        due("flow(3, 0, 1, 2), the other way", x.flow(3, 0, 1, 2), 1);
        due("flow(0, 3, 4, 30), a second one of the same pair", x.flow(0, 3, 4, 30), 2);
        due("flow(1, 2, 0, 0)", x.flow(1, 2, 0, 0), 3);
        due("costOf(8): 0 RAW, 3 BOXED", x.costOf(8), 30 + 2 + 4);
        due("costOf(1): 0 BOXED, 3 RAW", x.costOf(1), 0 + 1 + 30);
        due("costOf(9): both BOXED", x.costOf(9), 0);
    }

    private static void flowIsRefused() {
        promise = 4;
        UnboxPlanner x = new UnboxPlanner(4);
        due("flow(-1, 0, 1, 1)", x.flow(-1, 0, 1, 1), -1);
        due("flow(4, 0, 1, 1)", x.flow(4, 0, 1, 1), -1);
        due("flow(0, -1, 1, 1)", x.flow(0, -1, 1, 1), -1);
        due("flow(0, 4, 1, 1)", x.flow(0, 4, 1, 1), -1);
        due("flow(4, 4, 31, 31): goodness is looked at first", x.flow(4, 4, 31, 31), -1);
        due("flow(HIGH, LOW, 1, 1)", x.flow(HIGH, LOW, 1, 1), -1);
        due("flow(2, 2, 1, 1)", x.flow(2, 2, 1, 1), -2);
        due("flow(2, 2, 31, -1): sameness is looked at before costs", x.flow(2, 2, 31, -1), -2);
        due("flow(0, 1, -1, 0)", x.flow(0, 1, -1, 0), -3);
        due("flow(0, 1, 31, 0)", x.flow(0, 1, 31, 0), -3);
        due("flow(0, 1, 0, -1)", x.flow(0, 1, 0, -1), -3);
        due("flow(0, 1, 0, 31)", x.flow(0, 1, 0, 31), -3);
        due("flow(0, 1, LOW, HIGH)", x.flow(0, 1, LOW, HIGH), -3);
        due("flows() after refusals", x.flows(), 0);
        for (int i = 0; i < 20; i++) {
            due("flow number " + i, x.flow(i % 4, (i + 1) % 4, 1, 1), i);
        }
        int before = x.costOf(1);
        due("a flow after 20", x.flow(0, 1, 1, 1), -4);
        due("a flow after 20 with a wrong cost", x.flow(0, 1, 31, 1), -3);
        due("a flow after 20 from a value to itself", x.flow(1, 1, 1, 1), -2);
        due("a flow after 20 of a wrong value", x.flow(9, 1, 1, 1), -1);
        due("flows() at the most", x.flows(), 20);
        due("costOf(1) after refusals", x.costOf(1), before);
        due("cut(19)", x.cut(19), 19);
        due("a flow after a cut", x.flow(0, 1, 1, 1), 19);
        due("one more", x.flow(0, 1, 1, 1), -4);
    }

    private static void cut() {
        promise = 5;
        UnboxPlanner x = new UnboxPlanner(5);
        due("cut(0) of none", x.cut(0), -1);
        x.flow(0, 1, 1, 2);
        x.flow(1, 2, 4, 8);
        x.flow(2, 3, 16, 3);
        x.flow(3, 4, 5, 7);
        due("cut(-1)", x.cut(-1), -1);
        due("cut(4)", x.cut(4), -1);
        due("cut(LOW)", x.cut(LOW), -1);
        due("cut(HIGH)", x.cut(HIGH), -1);
        due("costOf(10) before", x.costOf(10), 1 + 8 + 16 + 7);
        due("cut(1)", x.cut(1), 3);
        due("costOf(10) without (1, 2)", x.costOf(10), 1 + 16 + 7);
        due("costOf(21) without (1, 2)", x.costOf(21), 2 + 3 + 5);
        due("cut(1) is now (2, 3)", x.cut(1), 2);
        due("costOf(10) without (2, 3)", x.costOf(10), 1 + 7);
        due("cut(2)", x.cut(2), -1);
        due("cut(1), the last", x.cut(1), 1);
        due("costOf(10) without (3, 4)", x.costOf(10), 1);
        due("cut(0)", x.cut(0), 0);
        due("costOf(10) without any", x.costOf(10), 0);
        due("cut(0) of none left", x.cut(0), -1);
        due("flow after all were cut", x.flow(0, 1, 6, 6), 0);
        fillAndEmpty(x);
    }

    private static void fillAndEmpty(UnboxPlanner x) {
        for (int i = 1; i < 20; i++) {
            x.flow(0, 1, i, 0);
        }
        due("costOf(2) of twenty flows", x.costOf(2), 6 + 190);
        due("cut(0) of twenty", x.cut(0), 19);
        due("costOf(2) of nineteen flows", x.costOf(2), 190);
        for (int left = 18; left >= 0; left--) {
            due("cut(0) down to " + left, x.cut(0), left);
            int want = 0;
            for (int i = 20 - left; i < 20; i++) {
                want += i;
            }
            due("costOf(2) with " + left + " left", x.costOf(2), want);
        }
    }

    private static void fix() {
        promise = 6;
        UnboxPlanner x = new UnboxPlanner(3);
        due("fix(-1, 0)", x.fix(-1, 0), -1);
        due("fix(3, 0)", x.fix(3, 0), -1);
        due("fix(3, 3): v is looked at first", x.fix(3, 3), -1);
        due("fix(0, -1)", x.fix(0, -1), -2);
        due("fix(0, 3)", x.fix(0, 3), -2);
        due("fix(0, LOW)", x.fix(0, LOW), -2);
        due("fix(0, HIGH)", x.fix(0, HIGH), -2);
        due("fix(0, 1)", x.fix(0, 1), 2);
        due("fix(0, 3) when fixed", x.fix(0, 3), -2);
        due("fix(0, 1) again", x.fix(0, 1), 1);
        due("fix(0, 0)", x.fix(0, 0), 1);
        due("fewestBoxed()", x.fewestBoxed(), 0);
        due("mostBoxed()", x.mostBoxed(), 6);
        due("fix(0, 2)", x.fix(0, 2), 0);
        due("mostBoxed() when freed", x.mostBoxed(), 7);
        due("fix(0, 2) again", x.fix(0, 2), 2);
    }

    private static void flows() {
        promise = 7;
        UnboxPlanner x = new UnboxPlanner(2);
        for (int i = 0; i < 20; i++) {
            due("flows() with " + i, x.flows(), i);
            x.flow(0, 1, 0, 0);
        }
        due("flows() with 20", x.flows(), 20);
        x.cut(7);
        due("flows() after a cut", x.flows(), 19);
        x.cut(19);
        due("flows() after a refused cut", x.flows(), 19);
    }

    private static void costOf() {
        promise = 8;
        UnboxPlanner x = new UnboxPlanner(2);
        x.cost(0, 0, 1);
        x.cost(0, 1, 2);
        x.cost(1, 0, 4);
        x.cost(1, 1, 8);
        x.flow(0, 1, 16, 30);
        due("costOf(0)", x.costOf(0), 5);
        due("costOf(1)", x.costOf(1), 2 + 4 + 30);
        due("costOf(2)", x.costOf(2), 1 + 8 + 16);
        due("costOf(3)", x.costOf(3), 10);
        due("costOf(-1)", x.costOf(-1), -1);
        due("costOf(4)", x.costOf(4), -1);
        due("costOf(LOW)", x.costOf(LOW), -1);
        due("costOf(HIGH)", x.costOf(HIGH), -1);
        x.fix(0, 1);
        due("costOf(0) of a plan that is not allowed", x.costOf(0), 5);
    }

    private static void best() {
        promise = 9;
        UnboxPlanner x = new UnboxPlanner(2);
        x.cost(0, 0, 10);
        x.cost(1, 1, 10);
        due("best() without flows", x.best(), 0);
        x.flow(0, 1, 0, 7);
        due("best() across the flow", x.best(), 7);
        x.flow(0, 1, 0, 7);
        due("best() with all of one form", x.best(), 10);
        x.fix(0, 1);
        x.fix(1, 0);
        due("best() when all are fixed", x.best(), 14);
        x.fix(0, 0);
        x.fix(1, 1);
        due("best() when all are fixed dearly", x.best(), 20);
    }

    private static void fewestAndMostBoxed() {
        UnboxPlanner x = new UnboxPlanner(4);
        bothBoxed(x, 0, 15);
        x.cost(1, 0, 1);
        bothBoxed(x, 2, 15);
        x.cost(2, 1, 1);
        bothBoxed(x, 2, 11);
        x.fix(3, 1);
        bothBoxed(x, 10, 11);
        x.flow(0, 3, 1, 0);
        bothBoxed(x, 11, 11);
        x.fix(1, 0);
        x.fix(2, 1);
        bothBoxed(x, 13, 13);
        x.fix(3, 0);
        bothBoxed(x, 4, 5);
    }

    private static void oneBestPlan() {
        for (int only = 0; only < 8; only++) {
            UnboxPlanner x = new UnboxPlanner(3);
            for (int v = 0; v < 3; v++) {
                x.cost(v, 1 - (only >> v & 1), 1);
            }
            bothBoxed(x, only, only);
            promise = 9;
            due("best() of one best plan, " + only, x.best(), 0);
            promise = 16;
            for (int plan = 0; plan < 8; plan++) {
                due("isBest(" + plan + ") beside " + only, x.isBest(plan), plan == only ? 1 : 0);
            }
        }
    }

    private static void bothBoxed(UnboxPlanner x, int fewest, int most) {
        promise = 10;
        due("fewestBoxed()", x.fewestBoxed(), fewest);
        promise = 11;
        due("mostBoxed()", x.mostBoxed(), most);
    }

    private static void settled() {
        promise = 12;
        UnboxPlanner x = new UnboxPlanner(4);
        x.cost(0, 0, 1);
        x.cost(1, 1, 1);
        due("settled(0)", x.settled(0), 1);
        due("settled(1)", x.settled(1), 0);
        due("settled(2)", x.settled(2), 2);
        due("settled(3)", x.settled(3), 2);
        due("settled(-1)", x.settled(-1), -1);
        due("settled(4)", x.settled(4), -1);
        due("settled(LOW)", x.settled(LOW), -1);
        due("settled(HIGH)", x.settled(HIGH), -1);
        x.fix(0, 0);
        x.fix(2, 0);
        x.fix(3, 1);
        due("settled(0) when fixed against its cost", x.settled(0), 0);
        due("settled(2) when fixed", x.settled(2), 0);
        due("settled(3) when fixed", x.settled(3), 1);
        x.flow(3, 1, 0, 1);
        due("settled(1) when a flow evens it out", x.settled(1), 2);
    }

    private static void bestWith() {
        promise = 13;
        UnboxPlanner x = new UnboxPlanner(3);
        x.cost(0, 0, 3);
        x.cost(1, 1, 20);
        x.flow(0, 1, 5, 9);
        due("bestWith(0, 0)", x.bestWith(0, 0), 3);
        due("bestWith(0, 1)", x.bestWith(0, 1), 9);
        due("bestWith(1, 0)", x.bestWith(1, 0), 3);
        due("bestWith(1, 1)", x.bestWith(1, 1), 20);
        due("bestWith(2, 1)", x.bestWith(2, 1), 3);
        due("bestWith(-1, 0)", x.bestWith(-1, 0), -1);
        due("bestWith(3, 2): v is looked at first", x.bestWith(3, 2), -1);
        due("bestWith(0, 2)", x.bestWith(0, 2), -2);
        due("bestWith(0, -1)", x.bestWith(0, -1), -2);
        due("bestWith(LOW, HIGH)", x.bestWith(LOW, HIGH), -1);
        due("bestWith(0, HIGH)", x.bestWith(0, HIGH), -2);
        x.fix(0, 1);
        due("bestWith(0, 0) when fixed to 1", x.bestWith(0, 0), -3);
        due("bestWith(0, 1) when fixed to 1", x.bestWith(0, 1), 9);
        due("bestWith(0, 2) when fixed to 1: form is looked at first", x.bestWith(0, 2), -2);
        due("bestWith(1, 0) beside a fixed one", x.bestWith(1, 0), 9);
        x.fix(0, 0);
        due("bestWith(0, 1) when fixed to 0", x.bestWith(0, 1), -3);
        due("bestWith(0, 0) when fixed to 0", x.bestWith(0, 0), 3);
        due("bestWith(1, 1) beside a fixed one", x.bestWith(1, 1), 28);
        x.fix(0, 2);
        due("bestWith(0, 1) when freed", x.bestWith(0, 1), 9);
    }

    private static void bestTied() {
        promise = 14;
        UnboxPlanner x = new UnboxPlanner(3);
        x.cost(0, 0, 10);
        x.cost(1, 1, 4);
        x.cost(2, 0, 2);
        due("bestTied(0, 1, 0)", x.bestTied(0, 1, 0), 0);
        due("bestTied(0, 1, 1)", x.bestTied(0, 1, 1), 4);
        due("bestTied(1, 0, -5)", x.bestTied(1, 0, -5), 4);
        due("bestTied(1, 0, LOW)", x.bestTied(1, 0, LOW), 4);
        due("bestTied(0, 1, 2)", x.bestTied(0, 1, 2), 4);
        due("bestTied(0, 2, 0)", x.bestTied(0, 2, 0), 2);
        due("bestTied(1, 1, 1)", x.bestTied(1, 1, 1), 0);
        due("bestTied(1, 1, 0)", x.bestTied(1, 1, 0), -2);
        due("bestTied(-1, 0, 1)", x.bestTied(-1, 0, 1), -1);
        due("bestTied(0, 3, 1)", x.bestTied(0, 3, 1), -1);
        due("bestTied(3, 3, 0)", x.bestTied(3, 3, 0), -1);
        due("bestTied(LOW, HIGH, 0)", x.bestTied(LOW, HIGH, 0), -1);
        x.fix(0, 0);
        due("bestTied(0, 1, 1) with one fixed", x.bestTied(0, 1, 1), 10);
        due("bestTied(0, 1, 0) with one fixed", x.bestTied(0, 1, 0), 14);
        due("bestTied(0, 0, 1) of a fixed one", x.bestTied(0, 0, 1), 10);
        x.fix(1, 0);
        due("bestTied(0, 1, 1) fixed alike", x.bestTied(0, 1, 1), 10);
        due("bestTied(0, 1, 0) fixed alike", x.bestTied(0, 1, 0), -2);
        x.fix(1, 1);
        due("bestTied(0, 1, 1) fixed apart", x.bestTied(0, 1, 1), -2);
        due("bestTied(0, 1, 0) fixed apart", x.bestTied(0, 1, 0), 14);
    }

    private static void saving() {
        promise = 15;
        UnboxPlanner x = new UnboxPlanner(2);
        due("saving(0) of none", x.saving(0), -1);
        x.cost(0, 0, 10);
        x.cost(1, 1, 10);
        x.flow(0, 1, 0, 3);
        due("saving(0) of the only one", x.saving(0), 3);
        x.flow(0, 1, 0, 9);
        due("saving(0): 10 to 9", x.saving(0), 1);
        due("saving(1): 10 to 3", x.saving(1), 7);
        x.flow(1, 0, 0, 30);
        due("saving(2) of one that does not count", x.saving(2), 0);
        due("saving(-1)", x.saving(-1), -1);
        due("saving(3)", x.saving(3), -1);
        due("saving(LOW)", x.saving(LOW), -1);
        due("saving(HIGH)", x.saving(HIGH), -1);
        x.fix(0, 0);
        x.fix(1, 1);
        due("saving(2) when fixed", x.saving(2), 30);
        due("saving(1) when fixed", x.saving(1), 0);
        due("flows() after questions", x.flows(), 3);
    }

    private static void isBest() {
        promise = 16;
        UnboxPlanner x = new UnboxPlanner(2);
        x.cost(0, 0, 1);
        due("isBest(0)", x.isBest(0), 0);
        due("isBest(1)", x.isBest(1), 1);
        due("isBest(2)", x.isBest(2), 0);
        due("isBest(3)", x.isBest(3), 1);
        due("isBest(-1)", x.isBest(-1), -1);
        due("isBest(4)", x.isBest(4), -1);
        due("isBest(LOW)", x.isBest(LOW), -1);
        due("isBest(HIGH)", x.isBest(HIGH), -1);
        x.fix(1, 1);
        due("isBest(1) when not allowed", x.isBest(1), 0);
        due("isBest(3) when allowed", x.isBest(3), 1);
        x.fix(0, 0);
        due("isBest(2) when it alone is allowed", x.isBest(2), 1);
        due("isBest(3) when dear plans alone are allowed", x.isBest(3), 0);
        x.fix(0, 2);
        x.fix(1, 2);
        x.cost(1, 0, 1);
        x.cost(1, 1, 1);
        x.fix(0, 0);
        due("isBest(0) at a cost above 0", x.isBest(0), 1);
        due("isBest(1) cheaper but not allowed", x.isBest(1), 0);
    }

    private static void settledCount() {
        promise = 17;
        UnboxPlanner x = new UnboxPlanner(10);
        due("settledCount() of a new one", x.settledCount(), 0);
        x.cost(9, 0, 1);
        due("settledCount() with a boxed one", x.settledCount(), 1);
        x.cost(0, 1, 1);
        due("settledCount() with a raw one", x.settledCount(), 2);
        x.fix(5, 0);
        due("settledCount() with a fixed one", x.settledCount(), 3);
        x.flow(4, 5, 0, 1);
        due("settledCount() with one bound to it", x.settledCount(), 4);
        for (int v = 0; v < 10; v++) {
            x.fix(v, v % 2);
        }
        due("settledCount() with all fixed", x.settledCount(), 10);
    }

    private static void extremes() {
        promise = 9;
        UnboxPlanner x = new UnboxPlanner(10);
        for (int v = 0; v < 10; v++) {
            x.cost(v, 0, 60);
            x.cost(v, 1, 60);
            x.fix(v, v % 2);
        }
        for (int i = 0; i < 20; i++) {
            x.flow(0, 1, 30, 0);
        }
        due("best() at the greatest cost", x.best(), 1200);
        due("fewestBoxed() there", x.fewestBoxed(), 682);
        due("mostBoxed() there", x.mostBoxed(), 682);
        due("costOf(682)", x.costOf(682), 1200);
        due("costOf(1023)", x.costOf(1023), 600);
        due("bestWith(0, 0) there", x.bestWith(0, 0), 1200);
        due("bestTied(0, 1, 0) there", x.bestTied(0, 1, 0), 1200);
        due("bestTied(0, 1, 1) there", x.bestTied(0, 1, 1), -2);
        due("saving(19) there", x.saving(19), 30);
        due("isBest(682) there", x.isBest(682), 1);
    }

    private static void questionsChangeNothing() {
        promise = 0;
        UnboxPlanner x = new UnboxPlanner(3);
        x.cost(0, 0, 9);
        x.cost(1, 1, 8);
        x.flow(0, 1, 2, 5);
        x.flow(2, 0, 3, 1);
        x.fix(2, 0);
        for (int round = 0; round < 3; round++) {
            due("costOf(1)", x.costOf(1), 8);
            due("best()", x.best(), 8);
            due("fewestBoxed()", x.fewestBoxed(), 1);
            due("mostBoxed()", x.mostBoxed(), 1);
            due("settled(0)", x.settled(0), 1);
            due("bestWith(0, 0)", x.bestWith(0, 0), 9);
            due("bestTied(0, 1, 1)", x.bestTied(0, 1, 1), 9);
            due("saving(0)", x.saving(0), 5);
            due("saving(1)", x.saving(1), 3);
            due("isBest(1)", x.isBest(1), 1);
            due("settledCount()", x.settledCount(), 3);
            due("flows()", x.flows(), 2);
            due("values()", x.values(), 3);
        }
    }

    private static void objectsAreApart() {
        promise = 1;
        UnboxPlanner x = new UnboxPlanner(2);
        UnboxPlanner y = new UnboxPlanner(3);
        x.cost(0, 0, 5);
        x.flow(0, 1, 5, 5);
        x.fix(1, 1);
        due("flows() of the other", y.flows(), 0);
        due("costOf(0) of the other", y.costOf(0), 0);
        due("settledCount() of the other", y.settledCount(), 0);
        due("values() of the first", x.values(), 2);
    }
}
