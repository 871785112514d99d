/** Finds out how tasks can be done by methods that break them into smaller ones. */
public final class MethodPlanner {
    public static final int BAD = -1;
    public static final int FULL = -2;

    private static final int STATES = 32;
    private static final int ACTIONS = 6;
    private static final int TASKS = 4;
    private static final int METHODS = 8;
    private static final int LIST_ROOM = 8;

    // Conditions and effects are both two sets of five facts.
    private static final int FACTS = 5;
    private static final int FACT_SET = 31;
    private static final int FACT_PAIRS = 1024;

    private static final int NO_STEP = 0;
    private static final int FIRST_ACTION_STEP = 1;
    private static final int FIRST_TASK_STEP = 8;
    private static final int STEP_BITS = 4;
    private static final int STEP_MASK = 15;
    private static final int STEP_PAIRS = 256;

    // Steps 0 .. 11, each with 32 states before it and 32 states after it.
    private static final int CELLS = 12288;

    // Places 0 .. 8 between the actions of the list, and that for each task.
    private static final int PLACES = 9;
    private static final int TASK_PLACES = 36;

    // A plan is a number: its length above its actions of three bits each, the first one highest.
    // So the order of plans is the order of their numbers. The longest plan has 16 actions
    // (task 3 has at most 2, task 2 at most 4, task 1 at most 8), which fill the 48 bits.
    private static final int ACTION_BITS = 3;
    private static final int ACTION_MASK = 7;
    private static final int LENGTH_SHIFT = 48;
    private static final long ONE_ACTION = 1L << 48;
    private static final long ACTIONS_MASK = (1L << 48) - 1L;

    private final int[] actionCondition = new int[ACTIONS];
    private final int[] actionEffect = new int[ACTIONS];

    private int methodSet = 0;
    private final int[] methodTask = new int[METHODS];
    private final int[] methodCondition = new int[METHODS];
    private final int[] methodFirst = new int[METHODS];
    private final int[] methodSecond = new int[METHODS];

    private int listLength = 0;
    private final int[] list = new int[LIST_ROOM];

    // For each step, state before and state after: the number of ways (at most 2^20, with
    // 1, 1, 2 and 4 methods for the tasks 0 to 3), and their first plan where there are any.
    private final int[] wayCount = new int[CELLS];
    private final long[] firstPlan = new long[CELLS];

    // What accounts works out from the list; nothing of it is kept from call to call.
    private final int[] stateAt = new int[PLACES];
    private final int[] placesAfter = new int[TASK_PLACES];

    public MethodPlanner() {
        fillNoStep();
        for (int a = 0; a < ACTIONS; a++) {
            fillActionStep(a);
        }
    }

    public boolean action(int a, int condition, int effect) {
        if (!isAction(a) || !isFactPair(condition) || !isFactPair(effect)) {
            return false;
        }
        actionCondition[a] = condition;
        actionEffect[a] = effect;
        fillActionStep(a);
        fillTaskSteps();
        return true;
    }

    public int method(int t, int condition, int steps) {
        if (!isTask(t) || !isFactPair(condition) || steps < 0 || steps >= STEP_PAIRS) {
            return BAD;
        }
        int first = steps & STEP_MASK;
        int second = steps >> STEP_BITS;
        if (!isStepOf(t, first) || !isStepOf(t, second)) {
            return BAD;
        }
        for (int m = 0; m < METHODS; m++) {
            if (!hasMethod(m)) {
                methodSet |= 1 << m;
                methodTask[m] = t;
                methodCondition[m] = condition;
                methodFirst[m] = first;
                methodSecond[m] = second;
                fillTaskSteps();
                return m;
            }
        }
        return FULL;
    }

    public boolean drop(int m) {
        if (!hasMethod(m)) {
            return false;
        }
        methodSet &= ~(1 << m);
        fillTaskSteps();
        return true;
    }

    public int methods() {
        return methodSet;
    }

    public int ways(int t, int s, int e) {
        if (!isTask(t) || !isState(s) || !isState(e)) {
            return BAD;
        }
        int row = rowOf(FIRST_TASK_STEP + t, s);
        return wayCount[row + e];
    }

    public int allWays(int t, int s) {
        if (!isTask(t) || !isState(s)) {
            return BAD;
        }
        int row = rowOf(FIRST_TASK_STEP + t, s);
        int sum = 0;
        for (int e = 0; e < STATES; e++) {
            sum += wayCount[row + e];
        }
        return sum;
    }

    public int nextEnd(int t, int s, int e) {
        if (!isTask(t) || !isState(s) || !isState(e)) {
            return BAD;
        }
        int row = rowOf(FIRST_TASK_STEP + t, s);
        for (int end = e; end < STATES; end++) {
            if (wayCount[row + end] > 0) {
                return end;
            }
        }
        return BAD;
    }

    public int shortest(int t, int s, int e) {
        if (!isTask(t) || !isState(s) || !isState(e)) {
            return BAD;
        }
        int row = rowOf(FIRST_TASK_STEP + t, s);
        if (wayCount[row + e] == 0) {
            return BAD;
        }
        return lengthOf(firstPlan[row + e]);
    }

    public int planned(int te, int s, int i) {
        if (te < 0 || te >= TASKS * STATES || !isState(s)) {
            return BAD;
        }
        int t = te % TASKS;
        int e = te / TASKS;
        int row = rowOf(FIRST_TASK_STEP + t, s);
        if (wayCount[row + e] == 0) {
            return BAD;
        }
        long plan = firstPlan[row + e];
        int length = lengthOf(plan);
        if (i < 0 || i >= length) {
            return BAD;
        }
        int actionsBehind = length - 1 - i;
        return (int) (plan >> (ACTION_BITS * actionsBehind)) & ACTION_MASK;
    }

    public int write(int a) {
        if (!isAction(a)) {
            return BAD;
        }
        if (listLength >= LIST_ROOM) {
            return FULL;
        }
        list[listLength] = a;
        listLength++;
        return listLength;
    }

    public int rub() {
        if (listLength <= 0) {
            return BAD;
        }
        listLength--;
        return list[listLength];
    }

    public boolean accounts(int t, int s) {
        if (!isTask(t) || !isState(s)) {
            return false;
        }
        if (walkList(s) == BAD) {
            return false;
        }
        fillPlacesAfter();
        return (placesAfter[t * PLACES] >> listLength & 1) != 0;
    }

    public int after(int s) {
        if (!isState(s)) {
            return BAD;
        }
        return walkList(s);
    }

    public int doable(int s) {
        if (!isState(s)) {
            return BAD;
        }
        int tasks = 0;
        for (int t = 0; t < TASKS; t++) {
            if (hasWay(FIRST_TASK_STEP + t, s)) {
                tasks |= 1 << t;
            }
        }
        return tasks;
    }

    // Without a method, the ways that take it for its own task are gone and no others come
    // instead; its steps don't use it. So it is useless just when it works out in no state.
    public boolean useless(int m) {
        if (!hasMethod(m)) {
            return false;
        }
        for (int s = 0; s < STATES; s++) {
            if (worksOut(m, s)) {
                return false;
            }
        }
        return true;
    }

    private static boolean isAction(int a) {
        return a >= 0 && a < ACTIONS;
    }

    private static boolean isTask(int t) {
        return t >= 0 && t < TASKS;
    }

    private static boolean isState(int s) {
        return s >= 0 && s < STATES;
    }

    private static boolean isFactPair(int pair) {
        return pair >= 0 && pair < FACT_PAIRS;
    }

    private static boolean isStepOf(int t, int step) {
        if (step < FIRST_TASK_STEP) {
            return step >= NO_STEP && step < FIRST_ACTION_STEP + ACTIONS;
        }
        return step > FIRST_TASK_STEP + t && step < FIRST_TASK_STEP + TASKS;
    }

    private boolean hasMethod(int m) {
        return m >= 0 && m < METHODS && (methodSet >> m & 1) != 0;
    }

    private static boolean holds(int condition, int s) {
        int need = condition & FACT_SET;
        int avoid = condition >> FACTS;
        return (s & need) == need && (s & avoid) == 0;
    }

    /** The state that action a leaves of state s; BAD when it can't be done there. */
    private int outcome(int a, int s) {
        if (!holds(actionCondition[a], s)) {
            return BAD;
        }
        int in = actionEffect[a] & FACT_SET;
        int out = actionEffect[a] >> FACTS;
        return s & ~out | in;
    }

    /** Where the cells of a step begin that is done in state s; the state after it is to be added. */
    private static int rowOf(int step, int s) {
        return (step * STATES + s) * STATES;
    }

    private void clearRow(int row) {
        for (int e = 0; e < STATES; e++) {
            wayCount[row + e] = 0;
            firstPlan[row + e] = 0L;
        }
    }

    private void fillNoStep() {
        for (int s = 0; s < STATES; s++) {
            int row = rowOf(NO_STEP, s);
            wayCount[row + s] = 1;
            firstPlan[row + s] = 0L;
        }
    }

    private void fillActionStep(int a) {
        for (int s = 0; s < STATES; s++) {
            int row = rowOf(FIRST_ACTION_STEP + a, s);
            clearRow(row);
            int e = outcome(a, s);
            if (e != BAD) {
                wayCount[row + e] = 1;
                firstPlan[row + e] = ONE_ACTION | a;
            }
        }
    }

    // From the greatest task down, since a method's steps are greater tasks than its own.
    private void fillTaskSteps() {
        for (int t = TASKS - 1; t >= 0; t--) {
            for (int s = 0; s < STATES; s++) {
                int row = rowOf(FIRST_TASK_STEP + t, s);
                clearRow(row);
                for (int m = 0; m < METHODS; m++) {
                    if (hasMethod(m) && methodTask[m] == t && holds(methodCondition[m], s)) {
                        addWaysBy(m, s, row);
                    }
                }
            }
        }
    }

    private void addWaysBy(int m, int s, int row) {
        int firstRow = rowOf(methodFirst[m], s);
        for (int between = 0; between < STATES; between++) {
            int count = wayCount[firstRow + between];
            if (count == 0) {
                continue;
            }
            int secondRow = rowOf(methodSecond[m], between);
            for (int e = 0; e < STATES; e++) {
                if (wayCount[secondRow + e] > 0) {
                    long plan = joined(firstPlan[firstRow + between], firstPlan[secondRow + e]);
                    addWays(row + e, count * wayCount[secondRow + e], plan);
                }
            }
        }
    }

    private void addWays(int cell, int count, long plan) {
        if (wayCount[cell] == 0 || plan < firstPlan[cell]) {
            firstPlan[cell] = plan;
        }
        wayCount[cell] += count;
    }

    private static int lengthOf(long plan) {
        return (int) (plan >> LENGTH_SHIFT);
    }

    private static long joined(long plan, long next) {
        int nextLength = lengthOf(next);
        long length = lengthOf(plan) + nextLength;
        long actions = (plan & ACTIONS_MASK) << (ACTION_BITS * nextLength) | next & ACTIONS_MASK;
        return length << LENGTH_SHIFT | actions;
    }

    private boolean hasWay(int step, int s) {
        int row = rowOf(step, s);
        for (int e = 0; e < STATES; e++) {
            if (wayCount[row + e] > 0) {
                return true;
            }
        }
        return false;
    }

    private boolean worksOut(int m, int s) {
        if (!holds(methodCondition[m], s)) {
            return false;
        }
        int firstRow = rowOf(methodFirst[m], s);
        for (int between = 0; between < STATES; between++) {
            if (wayCount[firstRow + between] > 0 && hasWay(methodSecond[m], between)) {
                return true;
            }
        }
        return false;
    }

    /** Does the list in state s, noting the state at each place; BAD when an action can't be done. */
    private int walkList(int s) {
        int state = s;
        stateAt[0] = state;
        for (int i = 0; i < listLength; i++) {
            state = outcome(list[i], state);
            if (state == BAD) {
                return BAD;
            }
            stateAt[i + 1] = state;
        }
        return state;
    }

    // The list alone says which state each of its places has, so a task done from a place on
    // is known by the places where it can end: bit j of the set for place j.
    private void fillPlacesAfter() {
        for (int t = TASKS - 1; t >= 0; t--) {
            for (int i = 0; i <= listLength; i++) {
                int places = 0;
                for (int m = 0; m < METHODS; m++) {
                    if (hasMethod(m) && methodTask[m] == t && holds(methodCondition[m], stateAt[i])) {
                        places |= placesAfterMethod(m, i);
                    }
                }
                placesAfter[t * PLACES + i] = places;
            }
        }
    }

    private int placesAfterMethod(int m, int i) {
        int between = placesAfterStep(methodFirst[m], i);
        int places = 0;
        for (int j = i; j <= listLength; j++) {
            if ((between >> j & 1) != 0) {
                places |= placesAfterStep(methodSecond[m], j);
            }
        }
        return places;
    }

    private int placesAfterStep(int step, int i) {
        if (step == NO_STEP) {
            return 1 << i;
        }
        if (step < FIRST_TASK_STEP) {
            boolean isNext = i < listLength && list[i] == step - FIRST_ACTION_STEP;
            return isNext ? 1 << (i + 1) : 0;
        }
        return placesAfter[(step - FIRST_TASK_STEP) * PLACES + i];
    }
}
