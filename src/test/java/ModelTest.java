import java.util.ArrayList;
import java.util.Arrays;
import java.util.List;
import java.util.TreeMap;

/**
 * Long runs of calls, compared with a model that lists every way one by one, as the document's
 * terms tell it. The runs are made from fixed numbers, so they are the same each time.
 */
public final class ModelTest {
    private static final int RUNS = 400;
    // All calls for which an object is promised. The longest turn rubs 8 actions, writes a plan of 16
    // and asks 4 times; from where it has no room, the rest of the calls are questions one by one.
    private static final int CALLS = 512;
    private static final int LONGEST_TURN = 28;
    private static final int MOST_WAYS = 20000;

    /** One way: the state it ends in, and its plan. */
    private record Way(int end, List<Integer> plan) { }

    private record Method(int task, int condition, int first, int second) { }

    private static final class Model {
        final int[] condition = new int[6];
        final int[] effect = new int[6];
        final Method[] methods = new Method[8];
        final List<Integer> list = new ArrayList<>();
        final List<List<Way>> known = new ArrayList<>();

        Model() {
            changed();
        }

        void changed() {
            known.clear();
            for (int i = 0; i < 4 * 32; i++) {
                known.add(null);
            }
        }

        static boolean holds(int condition, int s) {
            for (int f = 0; f < 5; f++) {
                boolean there = (s & 1 << f) != 0;
                boolean needed = (condition & 1 << f) != 0;
                boolean avoided = (condition & 1 << (f + 5)) != 0;
                if (needed && !there || avoided && there) {
                    return false;
                }
            }
            return true;
        }

        int done(int a, int s) {
            int e = s;
            for (int f = 0; f < 5; f++) {
                if ((effect[a] & 1 << (f + 5)) != 0) {
                    e &= ~(1 << f);
                }
                if ((effect[a] & 1 << f) != 0) {
                    e |= 1 << f;
                }
            }
            return e;
        }

        List<Way> step(int step, int s) {
            if (step == 0) {
                return List.of(new Way(s, List.of()));
            }
            if (step >= 8) {
                return task(step - 8, s);
            }
            int a = step - 1;
            return holds(condition[a], s) ? List.of(new Way(done(a, s), List.of(a))) : List.of();
        }

        List<Way> task(int t, int s) {
            List<Way> ways = known.get(t * 32 + s);
            if (ways == null) {
                ways = new ArrayList<>();
                for (Method m : methods) {
                    if (m != null && m.task == t && holds(m.condition, s)) {
                        for (Way first : step(m.first, s)) {
                            for (Way second : step(m.second, first.end)) {
                                List<Integer> plan = new ArrayList<>(first.plan);
                                plan.addAll(second.plan);
                                ways.add(new Way(second.end, plan));
                            }
                        }
                    }
                }
                known.set(t * 32 + s, ways);
            }
            return ways;
        }

        /** An upper bound of the ways, so that a run doesn't list millions. */
        long bound() {
            long[] most = new long[4];
            for (int t = 3; t >= 0; t--) {
                for (Method m : methods) {
                    if (m != null && m.task == t) {
                        long first = m.first >= 8 ? most[m.first - 8] : 1;
                        long second = m.second >= 8 ? most[m.second - 8] : 1;
                        most[t] += first * second;
                    }
                }
            }
            return Arrays.stream(most).max().getAsLong();
        }

        TreeMap<Integer, Integer> counts() {
            TreeMap<Integer, Integer> counts = new TreeMap<>();
            for (int t = 0; t < 4; t++) {
                for (int s = 0; s < 32; s++) {
                    for (Way way : task(t, s)) {
                        counts.merge((t * 32 + s) * 32 + way.end, 1, Integer::sum);
                    }
                }
            }
            return counts;
        }

        boolean goodStep(int t, int step) {
            return step >= 0 && step <= 6 || step >= 8 && step <= 11 && step - 8 > t;
        }

        boolean action(int a, int c, int f) {
            if (a < 0 || a > 5 || c < 0 || c > 1023 || f < 0 || f > 1023) {
                return false;
            }
            condition[a] = c;
            effect[a] = f;
            changed();
            return true;
        }

        int method(int t, int c, int steps) {
            if (t < 0 || t > 3 || c < 0 || c > 1023 || steps < 0 || steps > 255
                    || !goodStep(t, steps % 16) || !goodStep(t, steps / 16)) {
                return -1;
            }
            for (int m = 0; m < 8; m++) {
                if (methods[m] == null) {
                    methods[m] = new Method(t, c, steps % 16, steps / 16);
                    changed();
                    return m;
                }
            }
            return -2;
        }

        boolean has(int m) {
            return m >= 0 && m < 8 && methods[m] != null;
        }

        boolean drop(int m) {
            if (!has(m)) {
                return false;
            }
            methods[m] = null;
            changed();
            return true;
        }

        int methodSet() {
            int set = 0;
            for (int m = 0; m < 8; m++) {
                set += has(m) ? 1 << m : 0;
            }
            return set;
        }

        static boolean good(int t, int s) {
            return t >= 0 && t <= 3 && s >= 0 && s <= 31;
        }

        static boolean good(int t, int s, int e) {
            return good(t, s) && e >= 0 && e <= 31;
        }

        int ways(int t, int s, int e) {
            if (!good(t, s, e)) {
                return -1;
            }
            return (int) task(t, s).stream().filter(way -> way.end == e).count();
        }

        int allWays(int t, int s) {
            return good(t, s) ? task(t, s).size() : -1;
        }

        int nextEnd(int t, int s, int e) {
            if (!good(t, s, e)) {
                return -1;
            }
            return task(t, s).stream().mapToInt(Way::end).filter(end -> end >= e).min().orElse(-1);
        }

        static int order(List<Integer> p, List<Integer> q) {
            if (p.size() != q.size()) {
                return p.size() - q.size();
            }
            for (int i = 0; i < p.size(); i++) {
                if (!p.get(i).equals(q.get(i))) {
                    return p.get(i) - q.get(i);
                }
            }
            return 0;
        }

        List<Integer> firstPlan(int t, int s, int e) {
            return task(t, s).stream().filter(way -> way.end == e).map(Way::plan)
                    .min(Model::order).orElse(null);
        }

        int shortest(int t, int s, int e) {
            List<Integer> plan = good(t, s, e) ? firstPlan(t, s, e) : null;
            return plan == null ? -1 : plan.size();
        }

        int planned(int te, int s, int i) {
            if (te < 0 || te > 127 || s < 0 || s > 31) {
                return -1;
            }
            List<Integer> plan = firstPlan(te % 4, s, te / 4);
            return plan == null || i < 0 || i >= plan.size() ? -1 : plan.get(i);
        }

        int write(int a) {
            if (a < 0 || a > 5) {
                return -1;
            }
            if (list.size() == 8) {
                return -2;
            }
            list.add(a);
            return list.size();
        }

        int rub() {
            return list.isEmpty() ? -1 : list.remove(list.size() - 1);
        }

        boolean accounts(int t, int s) {
            return good(t, s) && task(t, s).stream().anyMatch(way -> way.plan.equals(list));
        }

        int after(int s) {
            if (s < 0 || s > 31) {
                return -1;
            }
            int state = s;
            for (int a : list) {
                if (!holds(condition[a], state)) {
                    return -1;
                }
                state = done(a, state);
            }
            return state;
        }

        int doable(int s) {
            if (s < 0 || s > 31) {
                return -1;
            }
            int tasks = 0;
            for (int t = 0; t < 4; t++) {
                tasks += task(t, s).isEmpty() ? 0 : 1 << t;
            }
            return tasks;
        }

        boolean useless(int m) {
            if (!has(m)) {
                return false;
            }
            TreeMap<Integer, Integer> with = counts();
            Method kept = methods[m];
            methods[m] = null;
            changed();
            boolean same = with.equals(counts());
            methods[m] = kept;
            changed();
            return same;
        }
    }

    private static long seed;
    private static int wrong = 0;
    private static int run = 0;
    private static int calls = 0;
    private static final int[] said = new int[16];

    /** A number 0 .. n - 1. */
    private static int pick(int n) {
        seed = seed * 6364136223846793005L + 1442695040888963407L;
        return (int) ((seed >>> 33) % n);
    }

    /** Mostly a number 0 .. n - 1, now and then one that isn't. */
    private static int near(int n) {
        if (pick(24) > 0) {
            return pick(n);
        }
        int[] no = {-1, n, n + 1, -n, Integer.MIN_VALUE, Integer.MAX_VALUE, 256, 1024};
        return no[pick(no.length)];
    }

    private static int fewFacts() {
        int facts = 0;
        for (int n = pick(3); n > 0; n--) {
            facts |= 1 << pick(5);
        }
        return facts;
    }

    private static int condition() {
        if (pick(20) == 0) {
            return near(1024);
        }
        return pick(3) == 0 ? 0 : (pick(2) == 0 ? fewFacts() : 0) + 32 * (pick(2) == 0 ? fewFacts() : 0);
    }

    private static int effect() {
        return pick(20) == 0 ? near(1024) : fewFacts() + 32 * fewFacts();
    }

    private static int step(int t) {
        if (pick(30) == 0) {
            return pick(16);
        }
        boolean taskFits = t >= 0 && t < 3 && pick(5) < 3;
        return taskFits ? 9 + t + pick(3 - t) : pick(7);
    }

    private static int steps(int t) {
        return pick(30) == 0 ? near(256) : step(t) + 16 * step(t);
    }

    private static void due(int kind, String call, int got, int want) {
        calls++;
        said[kind] += want > 0 ? 1 : 0;
        if (got != want) {
            wrong++;
            System.out.println("run " + run + ": " + call + " answered " + got + ", due is " + want);
        }
    }

    private static void due(int kind, String call, boolean got, boolean want) {
        due(kind, call, got ? 1 : 0, want ? 1 : 0);
    }

    private static void change(MethodPlanner x, Model y) {
        int a = near(6);
        int t = near(4);
        int c = condition();
        int f = effect();
        int steps = steps(t);
        int m = near(8);
        switch (pick(4)) {
            case 0:
                due(0, "action(" + a + ", " + c + ", " + f + ")", x.action(a, c, f), y.action(a, c, f));
                break;
            case 1:
                due(2, "drop(" + m + ")", x.drop(m), y.drop(m));
                break;
            default:
                int got = x.method(t, c, steps);
                due(1, "method(" + t + ", " + c + ", " + steps + ")", got, y.method(t, c, steps));
                if (y.bound() > MOST_WAYS) {
                    due(2, "drop(" + got + ")", x.drop(got), y.drop(got));
                }
        }
        due(3, "methods()", x.methods(), y.methodSet());
    }

    /** Makes the list a plan of some way, so that accounts has more than false to say. */
    private static void writePlan(MethodPlanner x, Model y) {
        List<Way> ways = y.task(pick(4), pick(32));
        if (ways.isEmpty()) {
            return;
        }
        List<Integer> plan = ways.get(pick(ways.size())).plan;
        while (!y.list.isEmpty()) {
            due(10, "rub()", x.rub(), y.rub());
        }
        for (int a : plan) {
            due(9, "write(" + a + ")", x.write(a), y.write(a));
        }
        for (int t = 0; t < 4; t++) {
            int s = pick(32);
            due(11, "accounts(" + t + ", " + s + ")", x.accounts(t, s), y.accounts(t, s));
        }
    }

    private static void list(MethodPlanner x, Model y) {
        int a = near(6);
        if (pick(3) == 0) {
            due(10, "rub()", x.rub(), y.rub());
        } else {
            due(9, "write(" + a + ")", x.write(a), y.write(a));
        }
    }

    private static void ask(MethodPlanner x, Model y) {
        int t = near(4);
        int s = near(32);
        int e = near(32);
        if (Model.good(t, s) && !y.task(t, s).isEmpty() && pick(3) > 0) {
            e = y.task(t, s).get(pick(y.task(t, s).size())).end;
        }
        int te = Model.good(t, s, e) ? t + 4 * e : near(128);
        int i = pick(10) == 0 ? near(17) : pick(4);
        int m = near(8);
        String tse = "(" + t + ", " + s + ", " + e + ")";
        String ts = "(" + t + ", " + s + ")";
        switch (pick(9)) {
            case 0: due(4, "ways" + tse, x.ways(t, s, e), y.ways(t, s, e)); break;
            case 1: due(5, "allWays" + ts, x.allWays(t, s), y.allWays(t, s)); break;
            case 2: due(6, "nextEnd" + tse, x.nextEnd(t, s, e), y.nextEnd(t, s, e)); break;
            case 3: due(7, "shortest" + tse, x.shortest(t, s, e), y.shortest(t, s, e)); break;
            case 4:
                due(8, "planned(" + te + ", " + s + ", " + i + ")", x.planned(te, s, i), y.planned(te, s, i));
                break;
            case 5: due(11, "accounts" + ts, x.accounts(t, s), y.accounts(t, s)); break;
            case 6: due(12, "after(" + s + ")", x.after(s), y.after(s)); break;
            case 7: due(13, "doable(" + s + ")", x.doable(s), y.doable(s)); break;
            default: due(14, "useless(" + m + ")", x.useless(m), y.useless(m));
        }
    }

    public static void main(String[] args) {
        for (run = 0; run < RUNS && wrong < 20; run++) {
            seed = run;
            MethodPlanner x = new MethodPlanner();
            Model y = new Model();
            calls = 0;
            while (calls < CALLS) {
                int kind = pick(30);
                if (calls + LONGEST_TURN > CALLS) {
                    ask(x, y);
                } else if (calls < 60 || kind == 0) {
                    change(x, y);
                } else if (kind < 6) {
                    list(x, y);
                } else if (kind == 6) {
                    writePlan(x, y);
                } else {
                    ask(x, y);
                }
            }
        }
        // Runs in which some kind of call never has anything to say would test nothing of it.
        for (int kind = 0; kind < 15; kind++) {
            if (said[kind] < 100 && wrong == 0) {
                wrong++;
                System.out.println("the runs say too little of call kind " + kind + ": " + said[kind]);
            }
        }
        if (wrong != 0) {
            System.out.println(wrong + " answers are not as due");
            System.exit(1);
        }
        System.out.println("all answers are as due");
    }
}
