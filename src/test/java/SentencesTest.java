import java.util.Arrays;
import java.util.function.Consumer;

/**
 * Sentences of the document that name no boundary case, each by a test of its own. Every test is run
 * three times: on a new object; on one that calls of every kind have left as a new one; and on one that
 * has been left so by so many calls that the test's last call is the 512th.
 */
public final class SentencesTest {
    private static final int BAD = MethodPlanner.BAD;
    private static final int FULL = MethodPlanner.FULL;
    private static final int CALLS = 512;
    // The rounds of calls before a test must all be there when it runs for the third time.
    private static final int MOST_CALLS_OF_A_TEST = 200;

    private static String sentence = "";
    private static String object = "";
    private static int wrong = 0;

    public static void main(String[] args) {
        terms();
        changes();
        questions();
        if (wrong != 0) {
            System.out.println(wrong + " answers are not as due");
            System.exit(1);
        }
        System.out.println("all answers are as due");
    }

    private static void terms() {
        test("Terms: To DO a task in a state, one takes a method for it whose condition holds in the state, "
                + "and does its steps one after the other", SentencesTest::stepsOneAfterTheOther);
        test("Terms: (an action by doing it, a task in this same way)", SentencesTest::tasksInThisSameWay);
        test("Terms: every action can be done when they come.", SentencesTest::actionsWhenTheyCome);
        test("Terms: every method's condition holds when they come.", SentencesTest::conditionsWhenTheyCome);
        test("Terms: a choice of a method for it and for every task among the steps",
                SentencesTest::choiceForEveryTask);
        test("Terms: Two ways are different when a different method is chosen somewhere.",
                SentencesTest::differentWays);
        test("Terms: The PLAN of a way is the list of actions done.", SentencesTest::planOfAWay);
        test("Terms: A way ends in the state that is left.", SentencesTest::endOfAWay);
    }

    private static void changes() {
        test("Promise 2: Gives action a a condition and an effect and answers true",
                SentencesTest::actionGiven);
        test("Promise 2: (also to an action that methods have among their steps)",
                SentencesTest::actionOfMethodsGiven);
        test("Promise 2: (also to an action that stands in the list)", SentencesTest::actionOfListGiven);
        test("Promise 3: Adds a method for task t; steps is s + 16 * s' for the steps s and then s'",
                SentencesTest::methodAdded);
        test("Promise 4: Takes method m away and answers true", SentencesTest::methodTakenAway);
        test("Promise 4: (each of eight methods)", SentencesTest::eachMethodTakenAway);
        test("Promise 4: (after its number is given again)", SentencesTest::numberGivenAgain);
        test("Promise 5: The methods: bit m for method m.", SentencesTest::setOfMethods);
        test("Promise 11: Appends an action to the list and answers its length", SentencesTest::written);
        test("Promise 12: Takes the last action of the list away and answers it", SentencesTest::rubbed);
    }

    private static void questions() {
        test("Promise 6: The number of ways of doing task t in state s that end in state e",
                SentencesTest::numberOfWays);
        test("Promise 7: The number of ways of doing task t in state s, however they end",
                SentencesTest::numberOfAllWays);
        test("Promise 8: The least state from e on in which a way of doing task t in state s ends",
                SentencesTest::leastEnd);
        test("Promise 9: The number of actions of the first plan of all ways of doing task t in state s "
                + "that end in state e", SentencesTest::lengthOfFirstPlan);
        test("Promise 10: Action number i (0 the first) of that plan, where te is t + 4 * e",
                SentencesTest::actionOfFirstPlan);
        test("Promise 13: Whether the list is the plan of some way of doing task t in state s",
                SentencesTest::planOfSomeWay);
        test("Promise 13: (the longest list)", SentencesTest::planOfEight);
        test("Promise 14: The state that doing the actions of the list one after the other leaves of state s",
                SentencesTest::stateThatIsLeft);
        test("Promise 15: The tasks that can be done in some way in state s: bit t for task t",
                SentencesTest::tasksThatCanBeDone);
        test("Promise 16: Whether there are as many ways of doing each task in each state, for every state "
                + "in which they end, without method m", SentencesTest::asManyWaysWithout);
        test("Promise 16: (as the methods and actions stand)", SentencesTest::asManyWaysAsTheyStand);
    }

    private static void test(String words, Consumer<Counted> body) {
        sentence = words;
        object = "a new object";
        Counted fresh = new Counted();
        body.accept(fresh);
        int calls = fresh.calls;
        due("calls of this test, too many", calls > MOST_CALLS_OF_A_TEST, false);
        object = "an object after a round of calls";
        body.accept(used(ROUND));
        object = "an object up to its 512th call";
        Counted last = used(CALLS - calls);
        body.accept(last);
        due("calls in all", last.calls, CALLS);
    }

    private static void due(String call, int got, int want) {
        if (got != want) {
            wrong++;
            System.out.println(sentence + "\n    " + object + ": " + call + " answered " + got + ", due is " + want);
        }
    }

    private static void due(String call, boolean got, boolean want) {
        due(call, got ? 1 : 0, want ? 1 : 0);
    }

    /** An object that counts its calls, so that a test can be made to end with the 512th. */
    private static final class Counted {
        private final MethodPlanner x = new MethodPlanner();
        private int calls = 0;

        private MethodPlanner next() {
            calls++;
            return x;
        }

        boolean action(int a, int condition, int effect) {
            return next().action(a, condition, effect);
        }

        int method(int t, int condition, int steps) {
            return next().method(t, condition, steps);
        }

        boolean drop(int m) {
            return next().drop(m);
        }

        int methods() {
            return next().methods();
        }

        int ways(int t, int s, int e) {
            return next().ways(t, s, e);
        }

        int allWays(int t, int s) {
            return next().allWays(t, s);
        }

        int nextEnd(int t, int s, int e) {
            return next().nextEnd(t, s, e);
        }

        int shortest(int t, int s, int e) {
            return next().shortest(t, s, e);
        }

        int planned(int te, int s, int i) {
            return next().planned(te, s, i);
        }

        int write(int a) {
            return next().write(a);
        }

        int rub() {
            return next().rub();
        }

        boolean accounts(int t, int s) {
            return next().accounts(t, s);
        }

        int after(int s) {
            return next().after(s);
        }

        int doable(int s) {
            return next().doable(s);
        }

        boolean useless(int m) {
            return next().useless(m);
        }
    }

    // Calls before a test.

    private static final int ROUND = 93;

    /** An object that so many calls of every kind have left as a new one. */
    private static Counted used(int calls) {
        Counted x = new Counted();
        for (int n = 1; x.calls + ROUND <= calls; n++) {
            int before = x.calls;
            fillUp(x, n);
            askAll(x, n);
            tryRefused(x);
            clear(x);
            due("calls of a round", x.calls - before, ROUND);
        }
        while (x.calls < calls) {
            x.methods();
        }
        return x;
    }

    /** Every action, method and place of the list gets something, other things in every round. */
    private static void fillUp(Counted x, int n) {
        for (int a = 0; a < 6; a++) {
            x.action(a, condition(0, n >> a & 1), effect(31 & n + a, 31 & 7 * n + a));
        }
        for (int m = 0; m < 8; m++) {
            int t = (m + n) % 4;
            boolean byTasks = t < 3 && m % 2 == 0;
            x.method(t, condition(0, n + m & 16), byTasks ? steps(task(t + 1), task(3)) : steps(act(m % 6), 0));
        }
        for (int i = 0; i < 8; i++) {
            x.write((n + i) % 6);
        }
    }

    private static void askAll(Counted x, int n) {
        for (int t = 0; t < 4; t++) {
            int s = n + 8 * t & 31;
            x.ways(t, s, s);
            x.allWays(t, s);
            int e = x.nextEnd(t, s, 0);
            x.shortest(t, s, e);
            x.planned(end(t, s), s, 0);
            x.accounts(t, s);
            x.after(s);
            x.doable(s);
            x.useless(t + 4);
        }
    }

    private static void tryRefused(Counted x) {
        x.action(6, 1023, 1023);
        x.action(5, 1024, 1023);
        x.action(5, 1023, 1024);
        x.method(0, 0, 0);
        x.method(3, 0, steps(task(3), 0));
        x.write(0);
        x.write(6);
        x.drop(8);
        x.ways(4, 0, 0);
        x.nextEnd(0, 32, 0);
        x.accounts(0, 32);
        x.after(-1);
        x.useless(-1);
    }

    private static void clear(Counted x) {
        for (int i = 0; i < 8; i++) {
            x.rub();
        }
        for (int m = 7; m >= 0; m--) {
            x.drop(m);
        }
        for (int a = 0; a < 6; a++) {
            x.action(a, 0, 0);
        }
    }

    // Short words for the tests.

    private static int condition(int need, int avoid) {
        return need + 32 * avoid;
    }

    private static int effect(int in, int out) {
        return in + 32 * out;
    }

    private static int act(int a) {
        return 1 + a;
    }

    private static int task(int u) {
        return 8 + u;
    }

    private static int steps(int first, int second) {
        return first + 16 * second;
    }

    private static int end(int t, int e) {
        return t + 4 * e;
    }

    private static String of(String name, int... arguments) {
        return name + Arrays.toString(arguments).replace('[', '(').replace(']', ')');
    }

    private static void given(Counted x, int a, int condition, int effect) {
        due(of("action", a, condition, effect), x.action(a, condition, effect), true);
    }

    private static void added(Counted x, int m, int t, int condition, int steps) {
        due(of("method", t, condition, steps), x.method(t, condition, steps), m);
    }

    private static void waysAre(Counted x, int t, int s, int e, int want) {
        due(of("ways", t, s, e), x.ways(t, s, e), want);
    }

    private static void allWaysAre(Counted x, int t, int s, int want) {
        due(of("allWays", t, s), x.allWays(t, s), want);
    }

    /** That task t is done in state s in one way alone, with this end and this plan. */
    private static void onlyWay(Counted x, int t, int s, int e, int... plan) {
        allWaysAre(x, t, s, 1);
        waysAre(x, t, s, e, 1);
        due(of("nextEnd", t, s, 0), x.nextEnd(t, s, 0), e);
        planIs(x, t, s, e, plan);
    }

    private static void noWay(Counted x, int t, int s) {
        allWaysAre(x, t, s, 0);
        due(of("nextEnd", t, s, 0), x.nextEnd(t, s, 0), BAD);
        due(of("doable", s) + ", its task " + t, x.doable(s) >> t & 1, 0);
    }

    private static void planIs(Counted x, int t, int s, int e, int... plan) {
        due(of("shortest", t, s, e), x.shortest(t, s, e), plan.length);
        for (int i = 0; i <= plan.length; i++) {
            int want = i < plan.length ? plan[i] : BAD;
            due(of("planned", end(t, e), s, i), x.planned(end(t, e), s, i), want);
        }
    }

    private static void writeAll(Counted x, int... actions) {
        for (int a : actions) {
            x.write(a);
        }
    }

    private static void rubAll(Counted x, int length) {
        for (int i = 0; i < length; i++) {
            x.rub();
        }
    }

    private static void accounted(Counted x, int t, int s, boolean want, int... list) {
        writeAll(x, list);
        due(of("accounts", t, s) + " of the list " + Arrays.toString(list), x.accounts(t, s), want);
        rubAll(x, list.length);
    }

    private static void uselessAre(Counted x, int... want) {
        for (int m = 0; m < 8; m++) {
            int number = m;
            boolean isWanted = Arrays.stream(want).anyMatch(w -> w == number);
            due(of("useless", m), x.useless(m), isWanted);
        }
    }

    // Terms.

    /** Fact 0: the key is there. Fact 1: the door is open. Fact 2: one is inside. */
    private static void house(Counted x) {
        given(x, 0, condition(0, 1), effect(1, 0));
        given(x, 1, condition(1, 2), effect(2, 0));
        given(x, 2, condition(2, 4), effect(4, 0));
        added(x, 0, 3, condition(0, 1), steps(act(0), 0));
        added(x, 1, 3, condition(1, 0), 0);
        added(x, 2, 2, condition(0, 2), steps(task(3), act(1)));
        added(x, 3, 2, condition(2, 0), 0);
        added(x, 4, 1, 0, steps(task(2), act(2)));
    }

    private static void stepsOneAfterTheOther(Counted x) {
        given(x, 0, condition(0, 1), effect(1, 0));
        given(x, 1, condition(1, 0), effect(2, 1));
        added(x, 0, 3, condition(0, 8), steps(act(0), act(1)));
        added(x, 1, 2, condition(0, 8), steps(act(1), act(0)));
        onlyWay(x, 3, 0, 2, 0, 1);
        noWay(x, 3, 1);
        onlyWay(x, 2, 1, 3, 1, 0);
        noWay(x, 2, 0);
        onlyWay(x, 3, 20, 22, 0, 1);
        // The condition doesn't hold in the states 8 and 9.
        noWay(x, 3, 8);
        noWay(x, 2, 9);
        // A method is for its own task alone.
        noWay(x, 1, 0);
        noWay(x, 0, 1);
    }

    private static void tasksInThisSameWay(Counted x) {
        house(x);
        onlyWay(x, 1, 0, 7, 0, 1, 2);
        onlyWay(x, 1, 1, 7, 1, 2);
        onlyWay(x, 1, 2, 6, 2);
        onlyWay(x, 2, 24, 27, 0, 1);
        onlyWay(x, 3, 31, 31);
        noWay(x, 1, 4);
        noWay(x, 1, 6);
        noWay(x, 0, 0);
    }

    private static void actionsWhenTheyCome(Counted x) {
        given(x, 0, 0, effect(1, 0));
        given(x, 1, condition(1, 0), effect(2, 0));
        given(x, 2, condition(0, 1), effect(4, 0));
        added(x, 0, 3, 0, steps(act(0), 0));
        added(x, 1, 2, 0, steps(task(3), act(1)));
        added(x, 2, 1, 0, steps(task(3), act(2)));
        added(x, 3, 1, 0, steps(act(2), task(2)));
        // Action 1 can't be done at first, but when it comes.
        onlyWay(x, 2, 0, 3, 0, 1);
        // Action 2 can be done at first, but by method 2 no more when it comes.
        onlyWay(x, 1, 0, 7, 2, 0, 1);
        noWay(x, 1, 1);
        onlyWay(x, 2, 1, 3, 0, 1);
    }

    private static void conditionsWhenTheyCome(Counted x) {
        given(x, 0, 0, effect(1, 2));
        added(x, 0, 3, condition(1, 0), steps(act(3), 0));
        added(x, 1, 3, condition(2, 0), steps(act(4), 0));
        added(x, 2, 2, 0, steps(act(0), task(3)));
        added(x, 3, 1, condition(2, 0), steps(act(0), act(5)));
        added(x, 4, 0, condition(1, 0), steps(act(0), 0));
        // Where task 3 comes, fact 0 is there and fact 1 isn't, whatever was at first.
        onlyWay(x, 2, 0, 1, 0, 3);
        onlyWay(x, 2, 2, 1, 0, 3);
        noWay(x, 3, 0);
        onlyWay(x, 3, 2, 2, 4);
        allWaysAre(x, 3, 3, 2);
        // Once a method is chosen, its condition need not hold any more.
        onlyWay(x, 1, 2, 1, 0, 5);
        noWay(x, 1, 1);
        // It must hold before the steps: that they make it hold is too late.
        noWay(x, 0, 0);
        onlyWay(x, 0, 1, 1, 0);
    }

    private static void choiceForEveryTask(Counted x) {
        given(x, 0, 0, effect(1, 0));
        given(x, 1, 0, effect(2, 0));
        added(x, 0, 3, 0, steps(act(0), 0));
        added(x, 1, 3, 0, steps(act(1), 0));
        added(x, 2, 2, 0, steps(task(3), task(3)));
        added(x, 3, 1, 0, steps(task(3), task(2)));
        // One and the same task may be done otherwise when it comes again.
        waysAre(x, 2, 0, 1, 1);
        waysAre(x, 2, 0, 2, 1);
        waysAre(x, 2, 0, 3, 2);
        allWaysAre(x, 2, 0, 4);
        waysAre(x, 1, 0, 1, 1);
        waysAre(x, 1, 0, 2, 1);
        waysAre(x, 1, 0, 3, 6);
        allWaysAre(x, 1, 0, 8);
        accounted(x, 2, 0, true, 0, 0);
        accounted(x, 2, 0, true, 0, 1);
        accounted(x, 2, 0, true, 1, 0);
        accounted(x, 2, 0, true, 1, 1);
        accounted(x, 1, 0, true, 1, 0, 1);
        accounted(x, 1, 0, false, 1, 0);
    }

    private static void differentWays(Counted x) {
        // Methods that do the same are different methods all the same.
        added(x, 0, 3, 0, 0);
        added(x, 1, 3, 0, 0);
        added(x, 2, 3, condition(1, 0), 0);
        waysAre(x, 3, 0, 0, 2);
        waysAre(x, 3, 1, 1, 3);
        added(x, 3, 2, 0, steps(task(3), task(3)));
        waysAre(x, 2, 0, 0, 4);
        waysAre(x, 2, 1, 1, 9);
        added(x, 4, 1, 0, steps(task(2), 0));
        added(x, 5, 1, 0, steps(0, task(2)));
        waysAre(x, 1, 0, 0, 8);
        waysAre(x, 1, 1, 1, 18);
        // The different method may be chosen far down.
        added(x, 6, 0, 0, steps(task(1), task(3)));
        waysAre(x, 0, 0, 0, 16);
        waysAre(x, 0, 1, 1, 54);
        allWaysAre(x, 0, 1, 54);
        due("shortest of equal plans", x.shortest(0, 1, 1), 0);
    }

    private static void planOfAWay(Counted x) {
        // Tasks, and steps that are none, leave nothing in the plan; the order is that of doing.
        added(x, 0, 3, 0, steps(0, act(4)));
        added(x, 1, 2, 0, steps(task(3), act(2)));
        added(x, 2, 1, 0, steps(act(1), task(2)));
        added(x, 3, 0, 0, steps(task(1), task(3)));
        onlyWay(x, 3, 6, 6, 4);
        onlyWay(x, 2, 6, 6, 4, 2);
        onlyWay(x, 1, 6, 6, 1, 4, 2);
        onlyWay(x, 0, 6, 6, 1, 4, 2, 4);
        accounted(x, 0, 6, true, 1, 4, 2, 4);
        accounted(x, 0, 6, false, 1, 4, 2);
        accounted(x, 0, 6, false, 1, 4, 2, 4, 4);
        accounted(x, 0, 6, false, 4, 1, 4, 2);
        accounted(x, 1, 6, true, 1, 4, 2);
        accounted(x, 2, 6, true, 4, 2);
        accounted(x, 3, 6, true, 4);
        accounted(x, 3, 6, false);
    }

    private static void endOfAWay(Counted x) {
        given(x, 0, 0, effect(8, 3));
        given(x, 1, 0, effect(1, 9));
        added(x, 0, 3, 0, steps(act(0), act(1)));
        added(x, 1, 2, 0, steps(act(1), act(0)));
        added(x, 2, 1, 0, steps(task(3), task(2)));
        added(x, 3, 0, 0, 0);
        onlyWay(x, 3, 22, 21, 0, 1);
        onlyWay(x, 2, 22, 28, 1, 0);
        onlyWay(x, 1, 22, 28, 0, 1, 1, 0);
        // Where nothing is done, the state is left as it is.
        onlyWay(x, 0, 22, 22);
        waysAre(x, 1, 22, 21, 0);
        waysAre(x, 1, 22, 22, 0);
        writeAll(x, 0, 1, 1, 0);
        due("after the plan", x.after(22), 28);
    }

    // The calls that change something.

    private static void actionGiven(Counted x) {
        for (int a = 0; a < 6; a++) {
            given(x, a, condition(1 << a & 31, 0), effect(0, 1 << a & 31));
        }
        for (int a = 0; a < 6; a++) {
            x.write(a);
            due("after action " + a, x.after(31), 31 & ~(1 << a));
            due("after action " + a + " where its fact isn't", x.after(31 & ~(1 << a)), a < 5 ? BAD : 31);
            x.rub();
        }
        // Given again, nothing is left of what was given before.
        given(x, 2, condition(0, 8), effect(16, 0));
        writeAll(x, 2);
        due("after the new action", x.after(5), 21);
        due("after the new action without the old need", x.after(1), 17);
        due("after the new action with what it avoids", x.after(12), BAD);
        given(x, 2, 0, 0);
        due("after the action of the beginning", x.after(12), 12);
        x.rub();
        x.write(3);
        due("after another action", x.after(31), 23);
    }

    private static void actionOfMethodsGiven(Counted x) {
        added(x, 0, 3, 0, steps(act(5), 0));
        added(x, 1, 2, 0, steps(task(3), act(5)));
        added(x, 2, 1, 0, steps(act(0), task(2)));
        added(x, 3, 1, 0, steps(act(0), act(1)));
        waysAre(x, 1, 3, 3, 2);
        planIs(x, 1, 3, 3, 0, 1);
        given(x, 5, condition(0, 4), effect(8, 1));
        onlyWay(x, 3, 3, 10, 5);
        onlyWay(x, 2, 3, 10, 5, 5);
        waysAre(x, 1, 3, 3, 1);
        waysAre(x, 1, 3, 10, 1);
        planIs(x, 1, 3, 10, 0, 5, 5);
        due("doable where action 5 can't be done", x.doable(4), 2);
        accounted(x, 1, 3, true, 0, 5, 5);
        accounted(x, 1, 4, false, 0, 5, 5);
        // So it can be done no second time, and not after action 0.
        given(x, 5, condition(0, 8), effect(8, 0));
        given(x, 0, 0, effect(8, 0));
        onlyWay(x, 3, 0, 8, 5);
        noWay(x, 2, 0);
        onlyWay(x, 1, 0, 8, 0, 1);
        uselessAre(x, 1, 2);
        given(x, 5, 0, 0);
        given(x, 0, 0, 0);
        uselessAre(x);
        waysAre(x, 1, 3, 3, 2);
        planIs(x, 1, 3, 3, 0, 1);
        planIs(x, 2, 3, 3, 5, 5);
    }

    private static void actionOfListGiven(Counted x) {
        writeAll(x, 4, 1, 4);
        added(x, 0, 3, 0, steps(act(4), 0));
        added(x, 1, 2, 0, steps(act(4), act(1)));
        added(x, 2, 0, 0, steps(task(2), task(3)));
        due("accounts", x.accounts(0, 0), true);
        given(x, 4, 0, effect(1, 0));
        due("after", x.after(0), 1);
        due("accounts with the effect", x.accounts(0, 0), true);
        given(x, 1, condition(1, 0), effect(2, 1));
        due("after both", x.after(0), 3);
        due("accounts with both effects", x.accounts(0, 0), true);
        given(x, 4, condition(0, 2), effect(1, 0));
        due("after, where the last can't be done", x.after(0), BAD);
        due("accounts, where the last can't be done", x.accounts(0, 0), false);
        given(x, 1, condition(1, 2), effect(4, 1));
        due("after, where all can be done again", x.after(0), 5);
        due("accounts, where all can be done again", x.accounts(0, 0), true);
        given(x, 4, condition(0, 8), effect(1, 0));
        due("after 8, where none can be done", x.after(8), BAD);
        due("accounts in 8, where none can be done", x.accounts(0, 8), false);
        due("the list stays: rub", x.rub(), 4);
        due("the list stays: rub again", x.rub(), 1);
        due("the list stays: the first", x.rub(), 4);
        due("the list stays: it has no more", x.rub(), BAD);
    }

    private static void methodAdded(Counted x) {
        given(x, 0, 0, effect(1, 0));
        given(x, 1, 0, effect(0, 1));
        added(x, 0, 2, 0, 1 + 16 * 2);
        onlyWay(x, 2, 0, 0, 0, 1);
        added(x, 1, 1, 0, 2 + 16 * 1);
        onlyWay(x, 1, 0, 1, 1, 0);
        added(x, 2, 0, condition(4, 0), 9 + 16 * 10);
        noWay(x, 0, 0);
        onlyWay(x, 0, 4, 4, 1, 0, 0, 1);
        added(x, 3, 0, 0, 10 + 16 * 9);
        onlyWay(x, 0, 0, 1, 0, 1, 1, 0);
        // One more for a task that methods have among their steps.
        added(x, 4, 2, 0, 0 + 16 * 3);
        waysAre(x, 0, 0, 1, 2);
        planIs(x, 0, 0, 1, 2, 1, 0);
        waysAre(x, 0, 4, 5, 3);
        waysAre(x, 0, 4, 4, 1);
        added(x, 5, 3, 0, 6 + 16 * 0);
        onlyWay(x, 3, 9, 9, 5);
    }

    private static void methodTakenAway(Counted x) {
        house(x);
        due("methods", x.methods(), 31);
        due("drop(3)", x.drop(3), true);
        due("methods without 3", x.methods(), 23);
        due("drop(3) again", x.drop(3), false);
        noWay(x, 1, 2);
        noWay(x, 2, 2);
        onlyWay(x, 1, 1, 7, 1, 2);
        due("doable(2)", x.doable(2), 8);
        due("useless(3)", x.useless(3), false);
        // Without method 0 the key must be there.
        due("drop(0)", x.drop(0), true);
        due("methods without 0 and 3", x.methods(), 22);
        noWay(x, 1, 0);
        due("doable(0)", x.doable(0), 0);
        onlyWay(x, 1, 1, 7, 1, 2);
        accounted(x, 1, 1, true, 1, 2);
        accounted(x, 1, 0, false, 0, 1, 2);
        due("useless(4)", x.useless(4), false);
        due("drop(1)", x.drop(1), true);
        noWay(x, 1, 1);
        accounted(x, 1, 1, false, 1, 2);
        due("useless(4) without methods for task 3", x.useless(4), true);
        due("useless(2) without methods for task 3", x.useless(2), true);
        due("drop(4)", x.drop(4), true);
        due("drop(2)", x.drop(2), true);
        due("methods without any", x.methods(), 0);
        writeAll(x, 0, 1, 2);
        due("after: the actions stay", x.after(0), 7);
    }

    private static void eachMethodTakenAway(Counted x) {
        for (int m = 0; m < 8; m++) {
            given(x, m % 6, 0, 0);
            added(x, m, m % 4, 0, steps(act(m % 6), m < 4 ? 0 : act(5)));
        }
        int left = 255;
        int[] order = {5, 0, 7, 2, 4, 1, 6, 3};
        for (int m : order) {
            due(of("drop", m), x.drop(m), true);
            left -= 1 << m;
            due("methods", x.methods(), left);
            for (int t = 0; t < 4; t++) {
                allWaysAre(x, t, 17, (left >> t & 1) + (left >> t + 4 & 1));
            }
            int other = m ^ 4;
            boolean otherStays = (left >> other & 1) == 1;
            int length = otherStays ? (other < 4 ? 1 : 2) : BAD;
            due(of("shortest", m % 4, 17, 17), x.shortest(m % 4, 17, 17), length);
        }
    }

    private static void numberGivenAgain(Counted x) {
        given(x, 0, 0, effect(1, 0));
        given(x, 1, 0, effect(2, 0));
        added(x, 0, 3, condition(0, 4), steps(act(0), act(0)));
        added(x, 1, 2, 0, steps(task(3), 0));
        added(x, 2, 1, 0, steps(task(2), task(3)));
        onlyWay(x, 1, 0, 1, 0, 0, 0, 0);
        due("drop(0)", x.drop(0), true);
        noWay(x, 1, 0);
        // The same task, with another condition and other steps.
        added(x, 0, 3, condition(8, 0), steps(0, act(1)));
        due("methods", x.methods(), 7);
        noWay(x, 1, 0);
        onlyWay(x, 1, 12, 14, 1, 1);
        // Another task: nothing of the old one is left.
        due("drop(0) again", x.drop(0), true);
        added(x, 0, 0, 0, steps(task(2), act(1)));
        noWay(x, 3, 12);
        noWay(x, 0, 12);
        uselessAre(x, 0, 1, 2);
        added(x, 3, 3, 0, 0);
        uselessAre(x);
        onlyWay(x, 0, 12, 14, 1);
        onlyWay(x, 1, 12, 12);
        // Of two free numbers, the least is given.
        due("drop(2)", x.drop(2), true);
        due("drop(1)", x.drop(1), true);
        added(x, 1, 1, 0, steps(act(0), 0));
        added(x, 2, 2, 0, steps(act(0), 0));
        onlyWay(x, 1, 4, 5, 0);
        onlyWay(x, 0, 4, 7, 0, 1);
        added(x, 4, 1, 1023, 0);
        onlyWay(x, 1, 4, 5, 0);
    }

    private static void setOfMethods(Counted x) {
        due("methods", x.methods(), 0);
        for (int m = 0; m < 8; m++) {
            added(x, m, 3 - m % 4, 1023, 0);
            due("methods", x.methods(), (2 << m) - 1);
        }
        due("a method too many", x.method(0, 0, 0), FULL);
        due("methods", x.methods(), 255);
        due("drop(6)", x.drop(6), true);
        due("methods", x.methods(), 191);
        due("drop(1)", x.drop(1), true);
        due("methods", x.methods(), 189);
        added(x, 1, 0, 0, 0);
        due("methods", x.methods(), 191);
        // Actions and the list are no methods.
        given(x, 0, 5, 5);
        writeAll(x, 0, 1);
        due("methods", x.methods(), 191);
    }

    private static void written(Counted x) {
        given(x, 3, condition(0, 1), effect(1, 0));
        given(x, 1, condition(1, 0), effect(0, 1));
        int[] actions = {3, 1, 3, 1, 0, 3, 5, 1};
        int[] states = {1, 0, 1, 0, 0, 1, 1, 0};
        for (int i = 0; i < 8; i++) {
            due(of("write", actions[i]), x.write(actions[i]), i + 1);
            due("after " + (i + 1) + " actions", x.after(0), states[i]);
        }
        for (int i = 7; i >= 0; i--) {
            due("rub", x.rub(), actions[i]);
        }
        due("after none", x.after(0), 0);
        for (int a = 0; a < 6; a++) {
            due(of("write", a), x.write(a), 1);
            due("rub", x.rub(), a);
        }
    }

    private static void rubbed(Counted x) {
        given(x, 2, 0, effect(4, 0));
        given(x, 5, 0, effect(2, 4));
        added(x, 0, 3, 0, steps(act(2), 0));
        added(x, 1, 2, 0, steps(task(3), act(5)));
        writeAll(x, 2, 5, 2);
        due("after three", x.after(0), 6);
        due("rub", x.rub(), 2);
        due("after two", x.after(0), 2);
        due("accounts of two", x.accounts(2, 0), true);
        due("rub", x.rub(), 5);
        due("after one", x.after(0), 4);
        due("accounts of one", x.accounts(3, 0), true);
        due("accounts of one is no more of two", x.accounts(2, 0), false);
        due("write in its place", x.write(4), 2);
        due("accounts of another", x.accounts(2, 0), false);
        due("rub", x.rub(), 4);
        due("rub", x.rub(), 2);
        due("after none", x.after(0), 0);
        due("rub of none", x.rub(), BAD);
        due("methods stay", x.methods(), 3);
    }

    // The questions.

    /** From 0, task 3 ends in 1 (two ways) or 2; task 2 does it twice; task 1 ends where fact 1 is. */
    private static void forks(Counted x) {
        given(x, 0, condition(0, 1), effect(1, 0));
        given(x, 1, 0, effect(2, 1));
        given(x, 2, condition(2, 0), 0);
        added(x, 0, 3, 0, steps(act(0), 0));
        added(x, 1, 3, condition(0, 4), steps(0, act(0)));
        added(x, 2, 3, 0, steps(act(1), 0));
        added(x, 3, 2, 0, steps(task(3), task(3)));
        added(x, 4, 1, 0, steps(task(2), act(2)));
        added(x, 5, 1, condition(8, 0), steps(act(2), 0));
    }

    private static void numberOfWays(Counted x) {
        forks(x);
        waysAre(x, 3, 0, 1, 2);
        waysAre(x, 3, 0, 2, 1);
        waysAre(x, 3, 0, 0, 0);
        waysAre(x, 3, 4, 5, 1);
        waysAre(x, 3, 1, 2, 1);
        waysAre(x, 3, 1, 1, 0);
        // From 0 over 1 to 2: 2 ways; over 2 to 3: 2 ways; over 2 to 2: 1 way.
        waysAre(x, 2, 0, 2, 3);
        waysAre(x, 2, 0, 3, 2);
        waysAre(x, 2, 0, 1, 0);
        waysAre(x, 2, 4, 6, 2);
        waysAre(x, 2, 4, 7, 1);
        waysAre(x, 1, 0, 2, 3);
        waysAre(x, 1, 0, 3, 2);
        // With fact 3 there is method 5 too; it needs fact 1 for action 2.
        waysAre(x, 1, 8, 10, 3);
        waysAre(x, 1, 10, 10, 4);
        waysAre(x, 1, 10, 11, 2);
        waysAre(x, 0, 0, 0, 0);
        // All states in which they end: from 10, over 11 to 10 twice, over 10 to 11 twice, to 10 once, and by method 5.
        for (int e = 0; e < 32; e++) {
            waysAre(x, 1, 10, e, e == 10 ? 4 : e == 11 ? 2 : 0);
        }
    }

    private static void numberOfAllWays(Counted x) {
        forks(x);
        for (int s = 0; s < 32; s++) {
            boolean isFirstThere = (s & 1) == 1;
            boolean isThirdThere = (s & 4) == 4;
            int byActionZero = isThirdThere ? 1 : 2;
            int once = isFirstThere ? 1 : 1 + byActionZero;
            // Behind action 0 only action 1 can be done; behind action 1 both.
            int twice = (isFirstThere ? 0 : byActionZero) + 1 + byActionZero;
            allWaysAre(x, 3, s, once);
            allWaysAre(x, 2, s, twice);
            allWaysAre(x, 1, s, twice + ((s & 10) == 10 ? 1 : 0));
            allWaysAre(x, 0, s, 0);
        }
    }

    private static void leastEnd(Counted x) {
        given(x, 0, 0, effect(3, 31));
        given(x, 1, 0, effect(17, 31));
        given(x, 2, condition(1, 0), effect(31, 0));
        added(x, 0, 3, 0, steps(act(1), 0));
        added(x, 1, 3, 0, steps(act(0), 0));
        added(x, 2, 3, 0, steps(act(0), act(2)));
        added(x, 3, 2, 0, steps(task(3), act(4)));
        added(x, 4, 1, condition(4, 0), steps(act(2), 0));
        added(x, 5, 1, 0, 0);
        for (int e = 0; e < 32; e++) {
            int want = e <= 3 ? 3 : e <= 17 ? 17 : 31;
            due(of("nextEnd", 3, 8, e), x.nextEnd(3, 8, e), want);
            due(of("nextEnd", 2, 0, e), x.nextEnd(2, 0, e), want);
            due(of("nextEnd", 1, 20, e), x.nextEnd(1, 20, e), e <= 20 ? 20 : BAD);
            due(of("nextEnd", 1, 5, e), x.nextEnd(1, 5, e), e <= 5 ? 5 : 31);
        }
        due("drop(1)", x.drop(1), true);
        due(of("nextEnd", 3, 8, 0), x.nextEnd(3, 8, 0), 17);
        due(of("nextEnd", 2, 8, 3), x.nextEnd(2, 8, 3), 17);
        due("drop(0)", x.drop(0), true);
        due(of("nextEnd", 3, 8, 0), x.nextEnd(3, 8, 0), 31);
        due(of("nextEnd", 0, 8, 0), x.nextEnd(0, 8, 0), BAD);
    }

    private static void lengthOfFirstPlan(Counted x) {
        given(x, 0, 0, effect(1, 0));
        given(x, 5, condition(0, 4), effect(1, 0));
        added(x, 0, 3, 0, steps(act(0), act(0)));
        due(of("shortest", 3, 0, 1), x.shortest(3, 0, 1), 2);
        added(x, 1, 3, 0, steps(act(5), 0));
        due(of("shortest", 3, 0, 1), x.shortest(3, 0, 1), 1);
        due(of("shortest", 3, 4, 5), x.shortest(3, 4, 5), 2);
        added(x, 2, 3, condition(1, 0), 0);
        due(of("shortest", 3, 1, 1), x.shortest(3, 1, 1), 0);
        due(of("shortest", 3, 0, 1), x.shortest(3, 0, 1), 1);
        added(x, 3, 2, 0, steps(task(3), task(3)));
        // What is the first time by action 5 needs nothing the second time.
        due(of("shortest", 2, 0, 1), x.shortest(2, 0, 1), 1);
        due(of("shortest", 2, 4, 5), x.shortest(2, 4, 5), 2);
        due(of("shortest", 2, 5, 5), x.shortest(2, 5, 5), 0);
        due("drop(2)", x.drop(2), true);
        due(of("shortest", 2, 0, 1), x.shortest(2, 0, 1), 2);
        due(of("shortest", 2, 4, 5), x.shortest(2, 4, 5), 4);
        // Only the ways that end in state e count.
        given(x, 1, 0, effect(16, 1));
        added(x, 2, 2, 0, steps(act(1), 0));
        due(of("shortest", 2, 0, 1), x.shortest(2, 0, 1), 2);
        due(of("shortest", 2, 0, 16), x.shortest(2, 0, 16), 1);
        due(of("shortest", 2, 0, 17), x.shortest(2, 0, 17), BAD);
        added(x, 4, 1, 0, steps(task(2), task(2)));
        due(of("shortest", 1, 0, 1), x.shortest(1, 0, 1), 4);
        due(of("shortest", 1, 0, 16), x.shortest(1, 0, 16), 2);
        due(of("shortest", 1, 0, 17), x.shortest(1, 0, 17), 3);
        due(of("shortest", 0, 0, 0), x.shortest(0, 0, 0), BAD);
    }

    private static void actionOfFirstPlan(Counted x) {
        given(x, 5, 0, effect(1, 0));
        given(x, 4, 0, effect(1, 0));
        added(x, 0, 3, 0, steps(act(5), act(2)));
        planIs(x, 3, 0, 1, 5, 2);
        added(x, 1, 3, 0, steps(act(4), act(3)));
        planIs(x, 3, 0, 1, 4, 3);
        added(x, 2, 3, 0, steps(act(2), act(5)));
        planIs(x, 3, 0, 1, 2, 5);
        added(x, 3, 3, 0, steps(act(2), act(4)));
        planIs(x, 3, 0, 1, 2, 4);
        added(x, 4, 2, 0, steps(task(3), task(3)));
        planIs(x, 2, 0, 1, 2, 4, 2, 4);
        added(x, 5, 2, condition(0, 8), steps(act(5), task(3)));
        planIs(x, 2, 0, 1, 5, 2, 4);
        planIs(x, 2, 8, 9, 2, 4, 2, 4);
        added(x, 6, 2, condition(0, 24), steps(act(3), task(3)));
        planIs(x, 2, 0, 1, 3, 2, 4);
        planIs(x, 2, 16, 17, 5, 2, 4);
        // te is t + 4 * e, so here 2 + 4 * 1 and 3 + 4 * 31.
        due(of("planned", 6, 0, 0), x.planned(6, 0, 0), 3);
        due(of("planned", 6, 0, 1), x.planned(6, 0, 1), 2);
        due(of("planned", 6, 0, 2), x.planned(6, 0, 2), 4);
        due(of("planned", 127, 30, 1), x.planned(127, 30, 1), 4);
        due(of("planned", 9, 0, 0), x.planned(9, 0, 0), BAD);
        due("drop(3)", x.drop(3), true);
        planIs(x, 2, 0, 1, 3, 2, 5);
        due("drop(2)", x.drop(2), true);
        planIs(x, 2, 0, 1, 3, 4, 3);
        planIs(x, 3, 30, 31, 4, 3);
        added(x, 2, 0, 0, steps(0, act(3)));
        due(of("planned", 0, 0, 0), x.planned(0, 0, 0), 3);
    }

    private static void planOfSomeWay(Counted x) {
        given(x, 0, condition(0, 1), effect(1, 0));
        added(x, 0, 3, 0, steps(act(0), 0));
        added(x, 1, 3, condition(1, 0), steps(act(1), act(2)));
        added(x, 2, 3, condition(1, 0), 0);
        added(x, 3, 2, 0, steps(task(3), task(3)));
        added(x, 4, 1, 0, steps(task(2), act(3)));
        // Not only the first plan: every plan of task 2 in state 0.
        accounted(x, 2, 0, true, 0);
        accounted(x, 2, 0, true, 0, 1, 2);
        accounted(x, 2, 0, false, 0, 0);
        accounted(x, 2, 0, false, 1, 2, 0);
        accounted(x, 2, 0, false);
        // And in state 1.
        accounted(x, 2, 1, true);
        accounted(x, 2, 1, true, 1, 2);
        accounted(x, 2, 1, true, 1, 2, 1, 2);
        accounted(x, 2, 1, false, 1, 2, 1);
        accounted(x, 2, 1, false, 0);
        accounted(x, 1, 1, true, 1, 2, 1, 2, 3);
        accounted(x, 1, 1, true, 3);
        accounted(x, 1, 1, false, 1, 2, 3, 1, 2);
        accounted(x, 1, 0, true, 0, 1, 2, 3);
        accounted(x, 0, 0, false);
        due("drop(1)", x.drop(1), true);
        accounted(x, 1, 0, false, 0, 1, 2, 3);
        accounted(x, 1, 0, true, 0, 3);
    }

    private static void planOfEight(Counted x) {
        given(x, 0, condition(0, 1), effect(1, 0));
        given(x, 1, condition(1, 0), effect(0, 1));
        added(x, 0, 3, condition(0, 1), steps(act(0), act(1)));
        added(x, 1, 2, 0, steps(task(3), task(3)));
        added(x, 2, 1, 0, steps(task(2), task(2)));
        added(x, 3, 3, condition(0, 1), steps(act(0), act(2)));
        added(x, 4, 3, condition(1, 0), steps(act(1), 0));
        added(x, 5, 0, 0, steps(task(1), task(1)));
        accounted(x, 1, 0, true, 0, 1, 0, 1, 0, 1, 0, 1);
        accounted(x, 1, 0, true, 0, 1, 0, 2, 1, 0, 1);
        accounted(x, 1, 0, true, 0, 1, 0, 1, 0, 1, 0, 2);
        accounted(x, 1, 0, true, 0, 2, 1, 0, 2, 1);
        accounted(x, 1, 0, false, 0, 2, 1, 0, 2, 1, 0, 1);
        accounted(x, 1, 0, false, 0, 1, 0, 1, 0, 1, 0, 0);
        accounted(x, 1, 1, false, 0, 1, 0, 1, 0, 1, 0, 1);
        // The plans of task 0 have twelve actions or more.
        accounted(x, 0, 0, false, 0, 1, 0, 1, 0, 1, 0, 1);
        due(of("shortest", 0, 0, 0), x.shortest(0, 0, 0), 12);
    }

    private static void stateThatIsLeft(Counted x) {
        given(x, 0, condition(0, 3), effect(1, 0));
        given(x, 1, condition(1, 0), effect(2, 1));
        given(x, 2, condition(2, 4), effect(12, 2));
        due("after none", x.after(21), 21);
        writeAll(x, 0);
        due("after 0 of 0", x.after(0), 1);
        due("after 0 of 16", x.after(16), 17);
        due("after 0 of 2", x.after(2), BAD);
        writeAll(x, 1);
        due("after 0 1 of 0", x.after(0), 2);
        due("after 0 1 of 24", x.after(24), 26);
        due("after 0 1 of 1", x.after(1), BAD);
        writeAll(x, 2, 3);
        due("after 0 1 2 3 of 0", x.after(0), 12);
        due("after 0 1 2 3 of 8", x.after(8), 12);
        due("after 0 1 2 3 of 4", x.after(4), BAD);
        writeAll(x, 0, 1);
        due("after 0 1 2 3 0 1 of 16", x.after(16), 30);
        writeAll(x, 2);
        due("after 0 1 2 3 0 1 2 of 16", x.after(16), BAD);
        due("rub", x.rub(), 2);
        due("after 0 1 2 3 0 1 of 16 again", x.after(16), 30);
        // It is no question of tasks and methods.
        added(x, 0, 3, 1023, 0);
        due("after with a method", x.after(16), 30);
        rubAll(x, 6);
        for (int s = 0; s < 32; s++) {
            due("after none", x.after(s), s);
        }
    }

    private static void tasksThatCanBeDone(Counted x) {
        for (int t = 0; t < 4; t++) {
            added(x, t, t, condition(1 << t, 0), steps(act(t), 0));
        }
        for (int s = 0; s < 32; s++) {
            due(of("doable", s), x.doable(s), s & 15);
        }
        // In some way is enough.
        added(x, 4, 0, condition(16, 0), steps(task(2), task(3)));
        for (int s = 0; s < 32; s++) {
            int byMethodFour = (s & 28) == 28 ? 1 : 0;
            due(of("doable", s), x.doable(s), s & 15 | byMethodFour);
        }
        given(x, 2, condition(0, 2), effect(0, 8));
        due("doable(28), where task 3 can't follow task 2", x.doable(28), 12);
        due("doable(29)", x.doable(29), 13);
        due("doable(31), where action 2 can't be done", x.doable(31), 11);
        given(x, 2, condition(0, 2), effect(3, 0));
        due("doable(28), where it can", x.doable(28), 13);
        due("drop(3)", x.drop(3), true);
        due("doable(28) without method 3", x.doable(28), 4);
        given(x, 1, 0, effect(0, 31));
        due("doable(2), where the only way ends in state 0", x.doable(2), 2);
    }

    private static void asManyWaysWithout(Counted x) {
        given(x, 0, condition(0, 1), effect(1, 0));
        given(x, 1, condition(31, 0), effect(0, 31));
        // Its condition holds nowhere; its steps can't follow each other; the task can't be done.
        added(x, 0, 3, condition(2, 2), 0);
        added(x, 1, 3, 0, steps(act(0), act(0)));
        added(x, 2, 0, 0, steps(act(2), task(1)));
        // Another has the same steps, so each has its own ways; the condition is not the same.
        added(x, 3, 3, 0, steps(act(0), 0));
        added(x, 4, 3, condition(0, 8), steps(0, act(0)));
        // It works out in state 31 alone.
        added(x, 5, 2, 0, steps(act(1), task(3)));
        // It holds only where its first step can't be done, and only where task 3 can't be done.
        added(x, 6, 2, condition(1, 0), steps(act(0), 0));
        added(x, 7, 2, condition(1, 0), steps(0, task(3)));
        uselessAre(x, 0, 1, 2, 6, 7);
        due("methods: nothing is taken away", x.methods(), 255);
        waysAre(x, 3, 0, 1, 2);
        waysAre(x, 2, 31, 1, 2);
        // The word is kept: without the useless ones nothing is otherwise.
        due("drop(0)", x.drop(0), true);
        due("drop(1)", x.drop(1), true);
        due("drop(2)", x.drop(2), true);
        due("drop(6)", x.drop(6), true);
        due("drop(7)", x.drop(7), true);
        for (int s = 0; s < 32; s++) {
            boolean isFirstThere = (s & 1) == 1;
            int once = isFirstThere ? 0 : (s & 8) == 8 ? 1 : 2;
            allWaysAre(x, 3, s, once);
            allWaysAre(x, 2, s, s == 31 ? 2 : 0);
        }
        waysAre(x, 3, 0, 1, 2);
        due("drop(4)", x.drop(4), true);
        waysAre(x, 3, 0, 1, 1);
        waysAre(x, 2, 31, 1, 1);
        // It works out in state 0 alone, and ends there.
        added(x, 0, 0, condition(0, 31), 0);
        uselessAre(x);
    }

    private static void asManyWaysAsTheyStand(Counted x) {
        added(x, 0, 0, 0, steps(task(1), task(2)));
        added(x, 1, 1, 0, steps(task(3), task(2)));
        added(x, 2, 2, condition(1, 0), steps(act(4), task(3)));
        // There is no method for task 3 yet.
        uselessAre(x, 0, 1, 2);
        added(x, 3, 3, condition(0, 2), steps(act(5), 0));
        uselessAre(x);
        // Now task 3 can't be done twice, as task 1 does, and task 0 does task 1.
        given(x, 5, 0, effect(2, 0));
        uselessAre(x, 0, 1);
        // Action 4 comes between and makes room for it again.
        given(x, 4, condition(2, 0), effect(0, 2));
        uselessAre(x);
        // Where action 4 can be done, task 3 can't follow.
        given(x, 4, condition(2, 0), effect(4, 0));
        uselessAre(x, 0, 1, 2);
        // Task 2 can't be done twice, as task 0 does.
        given(x, 4, condition(0, 2), effect(0, 1));
        given(x, 5, 0, 0);
        uselessAre(x, 0);
        due("drop(3)", x.drop(3), true);
        uselessAre(x, 0, 1, 2);
        // Task 1 can't be done without task 3, whatever there is for task 2.
        added(x, 3, 2, 0, 0);
        uselessAre(x, 0, 1, 2);
        added(x, 4, 3, condition(4, 0), 0);
        uselessAre(x);
    }
}
