/** Choosing for every value of a program whether it is kept raw or boxed, at the least total cost. */
public final class UnboxPlanner {
    public static final int RAW = 0;
    public static final int BOXED = 1;
    public static final int FREE = 2;

    private static final int MIN_VALUES = 2;
    private static final int MAX_VALUES = 10;
    private static final int MAX_FLOWS = 20;
    private static final int MAX_VALUE_COST = 60;
    private static final int MAX_FLOW_COST = 30;

    // settled's answer for a value whose form differs between best plans.
    private static final int UNSETTLED = 2;

    // No plan can cost this much, so it stands for "no plan found yet".
    private static final int ABOVE_EVERY_COST = MAX_VALUES * MAX_VALUE_COST + MAX_FLOWS * MAX_FLOW_COST + 1;

    // Handed over in place of a flow's number where every flow counts.
    private static final int NO_FLOW = -1;

    private final int valueCount;
    private final int planCount;
    private final int[] rawCost = new int[MAX_VALUES];
    private final int[] boxedCost = new int[MAX_VALUES];
    private final int[] fixedTo = new int[MAX_VALUES];

    private int flowCount = 0;
    private final int[] flowFrom = new int[MAX_FLOWS];
    private final int[] flowTo = new int[MAX_FLOWS];
    private final int[] flowBoxing = new int[MAX_FLOWS];
    private final int[] flowUnboxing = new int[MAX_FLOWS];

    public UnboxPlanner(int values) {
        valueCount = values < MIN_VALUES ? MIN_VALUES : values > MAX_VALUES ? MAX_VALUES : values;
        planCount = 1 << valueCount;
        for (int v = 0; v < MAX_VALUES; v++) {
            fixedTo[v] = FREE;
        }
    }

    public int values() {
        return valueCount;
    }

    public int cost(int v, int form, int cost) {
        if (!isValue(v)) {
            return -1;
        }
        if (!isForm(form)) {
            return -2;
        }
        if (cost < 0 || cost > MAX_VALUE_COST) {
            return -3;
        }
        int before = valueCost(v, form);
        if (form == BOXED) {
            boxedCost[v] = cost;
        } else {
            rawCost[v] = cost;
        }
        return before;
    }

    public int flow(int u, int v, int boxing, int unboxing) {
        if (!isValue(u) || !isValue(v)) {
            return -1;
        }
        if (u == v) {
            return -2;
        }
        if (!isFlowCost(boxing) || !isFlowCost(unboxing)) {
            return -3;
        }
        if (flowCount >= MAX_FLOWS) {
            return -4;
        }
        int number = flowCount;
        flowFrom[number] = u;
        flowTo[number] = v;
        flowBoxing[number] = boxing;
        flowUnboxing[number] = unboxing;
        flowCount = number + 1;
        return number;
    }

    public int cut(int flow) {
        if (!isFlow(flow)) {
            return -1;
        }
        for (int f = flow; f < flowCount - 1; f++) {
            flowFrom[f] = flowFrom[f + 1];
            flowTo[f] = flowTo[f + 1];
            flowBoxing[f] = flowBoxing[f + 1];
            flowUnboxing[f] = flowUnboxing[f + 1];
        }
        flowCount = flowCount - 1;
        return flowCount;
    }

    public int fix(int v, int form) {
        if (!isValue(v)) {
            return -1;
        }
        if (!isForm(form) && form != FREE) {
            return -2;
        }
        int before = fixedTo[v];
        fixedTo[v] = form;
        return before;
    }

    public int flows() {
        return flowCount;
    }

    public int costOf(int plan) {
        return isPlan(plan) ? planCost(plan, NO_FLOW) : -1;
    }

    public int best() {
        return leastCost(NO_FLOW);
    }

    public int fewestBoxed() {
        int least = leastCost(NO_FLOW);
        int inAll = planCount - 1;
        for (int plan = 0; plan < planCount; plan++) {
            if (isAllowedAt(plan, least)) {
                inAll &= plan;
            }
        }
        return inAll;
    }

    public int mostBoxed() {
        int least = leastCost(NO_FLOW);
        int inSome = 0;
        for (int plan = 0; plan < planCount; plan++) {
            if (isAllowedAt(plan, least)) {
                inSome |= plan;
            }
        }
        return inSome;
    }

    public int settled(int v) {
        if (!isValue(v)) {
            return -1;
        }
        int inAll = fewestBoxed();
        if (formIn(inAll, v) == BOXED) {
            return BOXED;
        }
        int inSome = mostBoxed();
        return formIn(inSome, v) == RAW ? RAW : UNSETTLED;
    }

    public int bestWith(int v, int form) {
        if (!isValue(v)) {
            return -1;
        }
        if (!isForm(form)) {
            return -2;
        }
        if (fixedTo[v] != FREE && fixedTo[v] != form) {
            return -3;
        }
        int least = ABOVE_EVERY_COST;
        for (int plan = 0; plan < planCount; plan++) {
            if (formIn(plan, v) == form && isAllowed(plan)) {
                int cost = planCost(plan, NO_FLOW);
                least = cost < least ? cost : least;
            }
        }
        return least;
    }

    public int bestTied(int u, int v, int same) {
        if (!isValue(u) || !isValue(v)) {
            return -1;
        }
        boolean wantSame = same != 0;
        int least = ABOVE_EVERY_COST;
        for (int plan = 0; plan < planCount; plan++) {
            boolean areSame = formIn(plan, u) == formIn(plan, v);
            if (areSame == wantSame && isAllowed(plan)) {
                int cost = planCost(plan, NO_FLOW);
                least = cost < least ? cost : least;
            }
        }
        return least == ABOVE_EVERY_COST ? -2 : least;
    }

    public int saving(int flow) {
        return isFlow(flow) ? leastCost(NO_FLOW) - leastCost(flow) : -1;
    }

    public int isBest(int plan) {
        if (!isPlan(plan)) {
            return -1;
        }
        int least = leastCost(NO_FLOW);
        return isAllowedAt(plan, least) ? 1 : 0;
    }

    public int settledCount() {
        int inAll = fewestBoxed();
        int inSome = mostBoxed();
        int count = 0;
        for (int v = 0; v < valueCount; v++) {
            // Both are the same just where no two best plans differ.
            if (formIn(inAll, v) == formIn(inSome, v)) {
                count++;
            }
        }
        return count;
    }

    private boolean isValue(int v) {
        return v >= 0 && v < valueCount;
    }

    private boolean isForm(int form) {
        return form == RAW || form == BOXED;
    }

    private boolean isFlow(int flow) {
        return flow >= 0 && flow < flowCount;
    }

    private boolean isFlowCost(int cost) {
        return cost >= 0 && cost <= MAX_FLOW_COST;
    }

    private boolean isPlan(int plan) {
        return plan >= 0 && plan < planCount;
    }

    private int formIn(int plan, int v) {
        return plan >> v & 1;
    }

    private boolean isAllowed(int plan) {
        for (int v = 0; v < valueCount; v++) {
            if (fixedTo[v] != FREE && fixedTo[v] != formIn(plan, v)) {
                return false;
            }
        }
        return true;
    }

    private boolean isAllowedAt(int plan, int cost) {
        return isAllowed(plan) && planCost(plan, NO_FLOW) == cost;
    }

    private int valueCost(int v, int form) {
        return form == BOXED ? boxedCost[v] : rawCost[v];
    }

    private int flowCost(int flow, int from, int to) {
        if (from == to) {
            return 0;
        }
        return from == RAW ? flowBoxing[flow] : flowUnboxing[flow];
    }

    private int planCost(int plan, int leftOut) {
        int sum = 0;
        for (int v = 0; v < valueCount; v++) {
            int form = formIn(plan, v);
            sum += valueCost(v, form);
        }
        for (int f = 0; f < flowCount; f++) {
            if (f != leftOut) {
                int from = formIn(plan, flowFrom[f]);
                int to = formIn(plan, flowTo[f]);
                sum += flowCost(f, from, to);
            }
        }
        return sum;
    }

    private int leastCost(int leftOut) {
        int least = ABOVE_EVERY_COST;
        for (int plan = 0; plan < planCount; plan++) {
            if (isAllowed(plan)) {
                int cost = planCost(plan, leftOut);
                least = cost < least ? cost : least;
            }
        }
        return least;
    }
}
