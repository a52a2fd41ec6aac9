import java.util.ArrayList;
import java.util.List;

/** Long runs of made-up calls, each answer held against a second way of working it out. */
public final class ModelTest {
    private static final int RUNS = 400;
    private static final int CALLS = 512;
    private static int wrong = 0;
    private static long seed;

    /** The document's words, done with lists of whole plans. */
    private static final class Model {
        final int n;
        final int[][] costs;
        final Integer[] fixed;
        final List<int[]> flows = new ArrayList<>();

        Model(int values) {
            n = Math.max(2, Math.min(10, values));
            costs = new int[n][2];
            fixed = new Integer[n];
        }

        boolean good(int v) {
            return 0 <= v && v < n;
        }

        boolean in(int x, int low, int high) {
            return low <= x && x <= high;
        }

        int cost(int v, int form, int cost) {
            if (!good(v)) return -1;
            if (!in(form, 0, 1)) return -2;
            if (!in(cost, 0, 60)) return -3;
            int before = costs[v][form];
            costs[v][form] = cost;
            return before;
        }

        int flow(int u, int v, int boxing, int unboxing) {
            if (!good(u) || !good(v)) return -1;
            if (u == v) return -2;
            if (!in(boxing, 0, 30) || !in(unboxing, 0, 30)) return -3;
            if (flows.size() == 20) return -4;
            flows.add(new int[] {u, v, boxing, unboxing});
            return flows.size() - 1;
        }

        int cut(int flow) {
            if (!in(flow, 0, flows.size() - 1)) return -1;
            flows.remove(flow);
            return flows.size();
        }

        int fix(int v, int form) {
            if (!good(v)) return -1;
            if (!in(form, 0, 2)) return -2;
            Integer before = fixed[v];
            fixed[v] = form == 2 ? null : Integer.valueOf(form);
            return before == null ? 2 : before;
        }

        boolean boxed(int plan, int v) {
            return (plan / (1 << v)) % 2 == 1;
        }

        int priceOf(int plan) {
            int sum = 0;
            for (int v = 0; v < n; v++) {
                sum += boxed(plan, v) ? costs[v][1] : costs[v][0];
            }
            for (int[] f : flows) {
                if (!boxed(plan, f[0]) && boxed(plan, f[1])) sum += f[2];
                if (boxed(plan, f[0]) && !boxed(plan, f[1])) sum += f[3];
            }
            return sum;
        }

        /** Grown value by value, so that a plan that is not allowed never comes up. */
        List<Integer> allowed() {
            List<Integer> plans = new ArrayList<>();
            plans.add(0);
            for (int v = 0; v < n; v++) {
                List<Integer> longer = new ArrayList<>();
                for (int p : plans) {
                    if (fixed[v] == null || fixed[v] == 0) longer.add(p);
                    if (fixed[v] == null || fixed[v] == 1) longer.add(p + (1 << v));
                }
                plans = longer;
            }
            return plans;
        }

        int least(List<Integer> plans) {
            return plans.stream().mapToInt(this::priceOf).min().orElse(-2);
        }

        List<Integer> bestPlans() {
            List<Integer> plans = allowed();
            int least = least(plans);
            plans.removeIf(p -> priceOf(p) != least);
            return plans;
        }

        int costOf(int plan) {
            return in(plan, 0, (1 << n) - 1) ? priceOf(plan) : -1;
        }

        /** By the promise's words: the one best plan whose boxed values are boxed in every best plan. */
        int fewestBoxed() {
            List<Integer> plans = bestPlans();
            for (int p : plans) {
                if (plans.stream().allMatch(q -> (p & ~q) == 0)) return p;
            }
            return Integer.MIN_VALUE;
        }

        int mostBoxed() {
            List<Integer> plans = bestPlans();
            for (int p : plans) {
                if (plans.stream().allMatch(q -> (q & ~p) == 0)) return p;
            }
            return Integer.MIN_VALUE;
        }

        int settled(int v) {
            if (!good(v)) return -1;
            List<Integer> plans = bestPlans();
            if (plans.stream().allMatch(p -> boxed(p, v))) return 1;
            return plans.stream().noneMatch(p -> boxed(p, v)) ? 0 : 2;
        }

        int bestWith(int v, int form) {
            if (!good(v)) return -1;
            if (!in(form, 0, 1)) return -2;
            if (fixed[v] != null && fixed[v] != form) return -3;
            List<Integer> plans = allowed();
            plans.removeIf(p -> boxed(p, v) != (form == 1));
            return least(plans);
        }

        int bestTied(int u, int v, int same) {
            if (!good(u) || !good(v)) return -1;
            List<Integer> plans = allowed();
            plans.removeIf(p -> (boxed(p, u) == boxed(p, v)) == (same == 0));
            return least(plans);
        }

        int saving(int flow) {
            if (!in(flow, 0, flows.size() - 1)) return -1;
            int with = least(allowed());
            int[] taken = flows.remove(flow);
            int without = least(allowed());
            flows.add(flow, taken);
            return with - without;
        }

        int isBest(int plan) {
            if (!in(plan, 0, (1 << n) - 1)) return -1;
            return bestPlans().contains(plan) ? 1 : 0;
        }

        int settledCount() {
            int count = 0;
            for (int v = 0; v < n; v++) {
                count += settled(v) == 2 ? 0 : 1;
            }
            return count;
        }
    }

    public static void main(String[] args) {
        for (int run = 0; run < RUNS; run++) {
            seed = run * 7919L + 17;
            oneRun(run);
        }
        System.out.println(wrong == 0 ? "all runs agree with the model" : wrong + " answers are not as due");
        if (wrong != 0) {
            System.exit(1);
        }
    }

    /** A made-up whole number in low .. high: the same ones in every run of the test. */
    private static int pick(int low, int high) {
        seed = seed * 6364136223846793005L + 1442695040888963407L;
        return low + (int) ((seed >>> 33) % (high - low + 1));
    }

    /** Mostly in low .. high, now and then just outside or far outside. */
    private static int about(int low, int high) {
        int[] odd = {low - 1, high + 1, Integer.MIN_VALUE, Integer.MAX_VALUE};
        return pick(0, 29) == 0 ? odd[pick(0, 3)] : pick(low, Math.max(low, high));
    }

    private static void oneRun(int run) {
        // Few sorts of cost in some runs, so that there are many best plans.
        int top = run % 3 == 0 ? 2 : run % 3 == 1 ? 9 : 60;
        int size = run % 13 == 0 ? pick(-3, 14) : run % 20 == 1 ? 10 : pick(2, 6);
        UnboxPlanner x = new UnboxPlanner(size);
        Model m = new Model(size);
        same(run, "values()", x.values(), m.n);
        for (int call = 1; call < CALLS; call++) {
            if (pick(0, 2) == 0) {
                change(run, x, m, top);
            } else {
                ask(run, x, m);
            }
        }
    }

    private static void change(int run, UnboxPlanner x, Model m, int top) {
        int u = about(0, m.n - 1);
        int v = about(0, m.n - 1);
        int kind = pick(0, 9);
        if (kind < 4) {
            int form = about(0, 1);
            int c = pick(0, 19) == 0 ? about(0, 60) : pick(0, top);
            same(run, "cost(" + v + ", " + form + ", " + c + ")", x.cost(v, form, c), m.cost(v, form, c));
        } else if (kind < 7) {
            int b = pick(0, 19) == 0 ? about(0, 30) : pick(0, Math.min(30, top));
            int w = pick(0, 19) == 0 ? about(0, 30) : pick(0, Math.min(30, top));
            same(run, "flow(" + u + ", " + v + ", " + b + ", " + w + ")", x.flow(u, v, b, w), m.flow(u, v, b, w));
        } else if (kind < 8) {
            int f = about(0, m.flows.size() - 1);
            same(run, "cut(" + f + ")", x.cut(f), m.cut(f));
        } else {
            int form = pick(0, 1) == 0 ? 2 : about(0, 2);
            same(run, "fix(" + v + ", " + form + ")", x.fix(v, form), m.fix(v, form));
        }
    }

    private static void ask(int run, UnboxPlanner x, Model m) {
        int u = about(0, m.n - 1);
        int v = about(0, m.n - 1);
        int form = about(0, 1);
        int f = about(0, m.flows.size() - 1);
        int plan = about(0, (1 << m.n) - 1);
        switch (pick(0, 11)) {
            case 0 -> same(run, "values()", x.values(), m.n);
            case 1 -> same(run, "flows()", x.flows(), m.flows.size());
            case 2 -> same(run, "costOf(" + plan + ")", x.costOf(plan), m.costOf(plan));
            case 3 -> same(run, "best()", x.best(), m.least(m.allowed()));
            case 4 -> same(run, "fewestBoxed()", x.fewestBoxed(), m.fewestBoxed());
            case 5 -> same(run, "mostBoxed()", x.mostBoxed(), m.mostBoxed());
            case 6 -> same(run, "settled(" + v + ")", x.settled(v), m.settled(v));
            case 7 -> same(run, "bestWith(" + v + ", " + form + ")", x.bestWith(v, form), m.bestWith(v, form));
            case 8 -> {
                int tie = pick(0, 1) == 0 ? 0 : pick(-2, 2);
                String call = "bestTied(" + u + ", " + v + ", " + tie + ")";
                same(run, call, x.bestTied(u, v, tie), m.bestTied(u, v, tie));
            }
            case 9 -> same(run, "saving(" + f + ")", x.saving(f), m.saving(f));
            case 10 -> {
                int p = pick(0, 1) == 0 ? m.bestPlans().get(0) : plan;
                same(run, "isBest(" + p + ")", x.isBest(p), m.isBest(p));
            }
            default -> same(run, "settledCount()", x.settledCount(), m.settledCount());
        }
    }

    private static void same(int run, String call, int got, int want) {
        if (got != want) {
            wrong++;
            if (wrong <= 50) {
                System.out.println("run " + run + ": " + call + " answered " + got + ", due is " + want);
            }
        }
    }
}
