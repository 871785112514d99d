import java.util.Arrays;
import java.util.function.Consumer;
import java.util.function.Supplier;
import java.util.stream.IntStream;

/**
 * Each sentence of the document that names a boundary case, by a test of its own: the last value
 * that is allowed and the first that is not, on both sides, the least and the greatest int, and
 * after a refused call that nothing has changed.
 */
public final class EdgesTest {
    private static final int BAD = MethodPlanner.BAD;
    private static final int FULL = MethodPlanner.FULL;
    private static final int CALLS = 512;

    private static String sentence = "";
    private static int wrong = 0;

    public static void main(String[] args) {
        terms();
        promises();
        if (wrong != 0) {
            System.out.println(wrong + " answers are not as due");
            System.exit(1);
        }
        System.out.println("all answers are as due");
    }

    private static void terms() {
        test("What it is: An object is used for at most 512 calls after it has been made",
                EdgesTest::allCallsOfAnObject);
        test("What it is: what later calls answer is free (but they must end, by LANGUAGE.md 7)",
                EdgesTest::laterCallsEnd);
        test("Terms: At first every action has the condition 0 and the effect 0.",
                EdgesTest::actionsAtFirst);
        test("Terms: it has a condition, and at most two STEPS", EdgesTest::atMostTwoSteps);
        test("Terms: facts that go out of the state, and facts that come in (after that)",
                EdgesTest::outBeforeIn);
        test("Terms: facts that must be in the state and facts that must not be",
                EdgesTest::neededAndAvoided);
        test("Terms: Plans are ordered by their lengths, the shorter first (the empty plan)",
                EdgesTest::emptyPlanFirst);
        test("Terms: Plans are ordered by their lengths, the shorter first (the longest plans)",
                EdgesTest::longestPlansByLength);
        test("Terms: equally long ones in the dictionary order (the longest plans)",
                EdgesTest::longestPlansInDictionaryOrder);
        test("Terms: equally long ones in the dictionary order (short plans)",
                EdgesTest::shortPlansInDictionaryOrder);
    }

    private static void promises() {
        test("Promise 1: No methods, an empty list.", EdgesTest::newObject);
        test("Promise 2: false, changing nothing, when a is not 0 .. 5, or one of them is not 0 .. 1023.",
                EdgesTest::actionRefused);
        test("Promise 3: Answers the least number that no method has.", EdgesTest::leastFreeNumber);
        test("Promise 3: BAD when t is not 0 .. 3, condition is not 0 .. 1023", EdgesTest::methodRefused);
        test("Promise 3: BAD when steps is not of this form", EdgesTest::stepsRefused);
        test("Promise 3: Tested in this order: BAD; FULL when there are eight.", EdgesTest::methodFull);
        test("Promise 4: false when there is none.", EdgesTest::dropRefused);
        test("Promise 6: BAD when t is not 0 .. 3 or s or e is not 0 .. 31.", EdgesTest::waysRefused);
        test("Promise 7: BAD when t is not 0 .. 3 or s is not 0 .. 31.", EdgesTest::allWaysRefused);
        test("Promise 8: BAD when t is not 0 .. 3, or s or e is not 0 .. 31.", EdgesTest::nextEndRefused);
        test("Promise 8: BAD when there is none", EdgesTest::noNextEnd);
        test("Promise 9: BAD as in ways.", EdgesTest::shortestRefused);
        test("Promise 9: BAD when there is none", EdgesTest::noShortest);
        test("Promise 10: BAD when t is not 0 .. 3 (te not 0 .. 127) or s is not 0 .. 31.",
                EdgesTest::plannedRefused);
        test("Promise 10: BAD when there is none", EdgesTest::noPlanned);
        test("Promise 11: BAD when a is not 0 .. 5", EdgesTest::writeRefused);
        test("Promise 11: FULL when it has eight.", EdgesTest::writeFull);
        test("Promise 12: BAD when it is empty.", EdgesTest::rubRefused);
        test("Promise 13: false when t is not 0 .. 3 or s is not 0 .. 31.", EdgesTest::accountsRefused);
        test("Promise 14: BAD when s is not 0 .. 31.", EdgesTest::afterRefused);
        test("Promise 14: BAD when some can't be done", EdgesTest::afterCannotBeDone);
        test("Promise 15: BAD when s is not 0 .. 31.", EdgesTest::doableRefused);
        test("Promise 16: false when there is none.", EdgesTest::uselessRefused);
        test("Promise 17: write tests BAD before FULL", EdgesTest::writeBadBeforeFull);
        test("Promise 17: with either nothing changes.", EdgesTest::refusedWritesChangeNothing);
    }

    private static void test(String words, Runnable body) {
        sentence = words;
        body.run();
    }

    private static void due(String call, int got, int want) {
        if (got != want) {
            wrong++;
            System.out.println(sentence + "\n    " + call + " answered " + got + ", due is " + want);
        }
    }

    private static void due(String call, boolean got, boolean want) {
        due(call, got ? 1 : 0, want ? 1 : 0);
    }

    private static String of(String name, int... arguments) {
        return name + Arrays.toString(arguments).replace('[', '(').replace(']', ')');
    }

    private static int condition(int need, int avoid) {
        return need + 32 * avoid;
    }

    private static int effect(int in, int out) {
        return in + 32 * out;
    }

    private static int act(int a) {
        return 1 + a;
    }

    private static int task(int u) {
        return 8 + u;
    }

    private static int steps(int first, int second) {
        return first + 16 * second;
    }

    private static int end(int t, int e) {
        return t + 4 * e;
    }

    private static boolean within(int n, int last) {
        return n >= 0 && n <= last;
    }

    /** The numbers next to 0 .. last, and the least and the greatest int. */
    private static int[] nearest(int last) {
        return new int[] {-1, last + 1, Integer.MIN_VALUE, Integer.MAX_VALUE};
    }

    /**
     * Numbers that are not 0 .. last: the nearest ones, and some that would turn into allowed
     * ones if they were shifted, multiplied or cut before they are looked at.
     */
    private static int[] outside(int last) {
        int[] more = {-2, last + 2, -1 - last, 2 * last + 2, 256, 1 << 16, 1 << 22, 1 << 27, 1 << 30,
            Integer.MIN_VALUE + 1, Integer.MIN_VALUE + last, 32 - (1 << 27), -32, -256, -1024};
        return IntStream.concat(Arrays.stream(nearest(last)), Arrays.stream(more))
                .filter(n -> !within(n, last)).distinct().toArray();
    }

    /** Both ends of 0 .. last, and the numbers outside of it. */
    private static int[] edges(int last) {
        return IntStream.concat(IntStream.of(0, last), Arrays.stream(outside(last))).toArray();
    }

    private static void writeAll(MethodPlanner x, int... actions) {
        for (int a : actions) {
            x.write(a);
        }
    }

    private static void planIs(MethodPlanner x, int t, int s, int e, int... plan) {
        due(of("shortest", t, s, e), x.shortest(t, s, e), plan.length);
        for (int i = 0; i < plan.length; i++) {
            due(of("planned", end(t, e), s, i), x.planned(end(t, e), s, i), plan[i]);
        }
        due(of("planned", end(t, e), s, plan.length), x.planned(end(t, e), s, plan.length), BAD);
        due(of("planned", end(t, e), s, -1), x.planned(end(t, e), s, -1), BAD);
    }

    // Objects in which refused calls are made.

    /**
     * Six methods, with the numbers 1 and 6 free. The list has five actions, a plan of task 0; none
     * of them is 0, so that an entry that is lost is seen.
     */
    private static MethodPlanner some() {
        MethodPlanner x = new MethodPlanner();
        x.action(0, condition(4, 16), effect(16, 4));
        x.action(1, condition(1, 0), effect(2, 1));
        x.action(2, 0, effect(4, 2));
        x.action(3, condition(0, 1), effect(1, 0));
        x.action(4, condition(16, 0), effect(8, 16));
        x.action(5, condition(0, 8), effect(1, 31));
        x.method(3, condition(0, 1), steps(act(3), 0));
        x.method(3, 1023, 0);
        x.method(3, condition(1, 0), steps(act(1), act(2)));
        x.method(2, 0, steps(task(3), act(2)));
        x.method(2, condition(0, 8), steps(0, act(5)));
        x.method(1, 0, steps(task(2), task(3)));
        x.method(1, 1023, 0);
        x.method(0, 0, steps(task(1), task(2)));
        x.drop(1);
        x.drop(6);
        writeAll(x, 5, 1, 2, 3, 2);
        return x;
    }

    /** Eight methods and eight actions in the list. */
    private static MethodPlanner full() {
        MethodPlanner x = some();
        x.method(0, condition(4, 0), steps(act(0), task(2)));
        x.method(3, condition(8, 0), 0);
        writeAll(x, 1, 2, 5);
        return x;
    }

    /** Eight methods and an empty list that was full before. */
    private static MethodPlanner rubbed() {
        MethodPlanner x = full();
        for (int i = 0; i < 8; i++) {
            x.rub();
        }
        return x;
    }

    // What later calls show of an object: views of at most 390 calls each, every one of them
    // on an object of its own, since an object is good for 512 calls.

    private static final int VIEWS = 3 + 4 * 32;

    private static final class Notes {
        final int[] answers = new int[CALLS];
        int count = 0;

        void add(int answer) {
            answers[count] = answer;
            count++;
        }

        void add(boolean answer) {
            add(answer ? 1 : 0);
        }
    }

    private static int[] seen(MethodPlanner x, int view) {
        Notes notes = new Notes();
        switch (view) {
            case 0: seeStates(x, notes); break;
            case 1: seeListAndActions(x, notes); break;
            case 2: seeMethods(x, notes); break;
            default: seeWays(x, (view - 3) / 32, (view - 3) % 32, notes);
        }
        return Arrays.copyOf(notes.answers, notes.count);
    }

    private static void seeStates(MethodPlanner x, Notes notes) {
        notes.add(x.methods());
        for (int m = 0; m < 8; m++) {
            notes.add(x.useless(m));
        }
        for (int s = 0; s < 32; s++) {
            notes.add(x.after(s));
            notes.add(x.doable(s));
            for (int t = 0; t < 4; t++) {
                notes.add(x.accounts(t, s));
                notes.add(x.allWays(t, s));
            }
        }
    }

    private static void seeListAndActions(MethodPlanner x, Notes notes) {
        for (int i = 0; i < 9; i++) {
            notes.add(x.rub());
        }
        for (int a = 0; a < 6; a++) {
            notes.add(x.write(a));
            for (int s = 0; s < 32; s++) {
                notes.add(x.after(s));
            }
            notes.add(x.rub());
        }
    }

    /** Fills the list and the methods up and takes all methods away, one by one. */
    private static void seeMethods(MethodPlanner x, Notes notes) {
        for (int i = 0; i < 9; i++) {
            notes.add(x.write(i % 6));
            notes.add(x.method(3, condition(0, i), steps(act(i % 6), 0)));
            notes.add(x.methods());
        }
        for (int m = 0; m < 8; m++) {
            notes.add(x.drop(m));
            for (int s = 0; s < 32; s++) {
                notes.add(x.allWays(s % 4, s));
            }
        }
    }

    private static void seeWays(MethodPlanner x, int t, int s, Notes notes) {
        seePlans(x, t, s, notes);
        // After a change, what the object has worked out beforehand is worked out anew. So this
        // shows what a refused call has left behind without any effect at once.
        notes.add(x.action(5, condition(0, 8), effect(1, 31)));
        seePlans(x, t, s, notes);
    }

    private static void seePlans(MethodPlanner x, int t, int s, Notes notes) {
        for (int e = 0; e < 32; e++) {
            notes.add(x.ways(t, s, e));
            notes.add(x.nextEnd(t, s, e));
            notes.add(x.shortest(t, s, e));
            for (int i = 0; i < 3; i++) {
                notes.add(x.planned(end(t, e), s, i));
            }
        }
    }

    /** The kinds of objects in which refused calls are made. */
    private enum Kind {
        NEW(MethodPlanner::new), SOME(EdgesTest::some), FULL(EdgesTest::full), RUBBED(EdgesTest::rubbed);

        final Supplier<MethodPlanner> maker;
        final int[][] views = new int[VIEWS][];

        Kind(Supplier<MethodPlanner> maker) {
            this.maker = maker;
            for (int view = 0; view < VIEWS; view++) {
                views[view] = seen(maker.get(), view);
            }
        }
    }

    /** That an object after the refused calls answers all later calls as one without them does. */
    private static void unchanged(String what, Kind kind, Consumer<MethodPlanner> refused) {
        for (int view = 0; view < VIEWS; view++) {
            MethodPlanner x = kind.maker.get();
            refused.accept(x);
            int at = Arrays.mismatch(seen(x, view), kind.views[view]);
            due("after " + what + " in a " + kind + " object: first other answer in view " + view, at, -1);
        }
    }

    private static void unchangedAnywhere(String what, Consumer<MethodPlanner> refused) {
        unchanged(what, Kind.NEW, refused);
        unchanged(what, Kind.SOME, refused);
        unchanged(what, Kind.FULL, refused);
    }

    /**
     * Every task can be done in every state, in one way that ends in state 0 and one that ends in
     * state 31; for the tasks 0 and 1 by one action, for the tasks 2 and 3 by two. The list is the
     * plan of the tasks 2 and 3 that ends in state 31.
     */
    private static MethodPlanner corners() {
        MethodPlanner x = new MethodPlanner();
        x.action(0, 0, effect(0, 31));
        x.action(1, 0, effect(31, 0));
        for (int t = 0; t < 4; t++) {
            int before = t < 2 ? 0 : act(5);
            x.method(t, 0, steps(before, act(0)));
            x.method(t, 0, steps(before, act(1)));
        }
        writeAll(x, 5, 1);
        return x;
    }

    // What it is.

    private interface Call {
        int on(MethodPlanner x);
    }

    /** Some calls first, then one call over and over up to the last of the 512, and the same answer each time. */
    private static void upToTheLastCall(String name, int callsBefore, MethodPlanner x, Call call, int want) {
        for (int n = callsBefore + 1; n <= CALLS; n++) {
            due(name + " as call number " + n, call.on(x), want);
        }
    }

    private static void allCallsOfAnObject() {
        int before = 12;
        upToTheLastCall("action", before, corners(), x -> x.action(5, 0, 0) ? 1 : 0, 1);
        upToTheLastCall("method", before, corners(), x -> x.method(0, 0, 0), FULL);
        upToTheLastCall("drop", before, corners(), x -> x.drop(8) ? 1 : 0, 0);
        upToTheLastCall("methods", before, corners(), x -> x.methods(), 255);
        upToTheLastCall("ways", before, corners(), x -> x.ways(3, 31, 31), 1);
        upToTheLastCall("allWays", before, corners(), x -> x.allWays(3, 31), 2);
        upToTheLastCall("nextEnd", before, corners(), x -> x.nextEnd(3, 31, 1), 31);
        upToTheLastCall("shortest", before, corners(), x -> x.shortest(3, 31, 31), 2);
        upToTheLastCall("planned", before, corners(), x -> x.planned(127, 31, 0), 5);
        upToTheLastCall("write", before, corners(), x -> x.write(6), BAD);
        upToTheLastCall("accounts", before, corners(), x -> x.accounts(3, 31) ? 1 : 0, 1);
        upToTheLastCall("after", before, corners(), x -> x.after(0), 31);
        upToTheLastCall("doable", before, corners(), x -> x.doable(31), 15);
        upToTheLastCall("useless", before, corners(), x -> x.useless(7) ? 1 : 0, 0);
        upToTheLastCall("rub", 0, new MethodPlanner(), x -> x.rub(), BAD);
        writesAndRubsToTheLastCall();
        methodsAndDropsToTheLastCall();
        actionsToTheLastCall();
    }

    private static void writesAndRubsToTheLastCall() {
        MethodPlanner x = new MethodPlanner();
        for (int n = 0; n < CALLS; n += 16) {
            for (int i = 0; i < 8; i++) {
                due(of("write", (n + i) % 6), x.write((n + i) % 6), i + 1);
            }
            for (int i = 7; i >= 0; i--) {
                due("rub", x.rub(), (n + i) % 6);
            }
        }
    }

    private static void methodsAndDropsToTheLastCall() {
        MethodPlanner x = new MethodPlanner();
        for (int n = 0; n < CALLS; n += 16) {
            for (int m = 0; m < 8; m++) {
                due(of("method", m % 4, 0, 0), x.method(m % 4, 0, 0), m);
            }
            for (int m = 7; m >= 0; m--) {
                due(of("drop", m), x.drop(m), true);
            }
        }
    }

    private static void actionsToTheLastCall() {
        MethodPlanner x = new MethodPlanner();
        x.write(5);
        for (int n = 2; n < CALLS; n += 2) {
            int s = n / 2 % 32;
            due(of("action", 5, 0, effect(s, 31)), x.action(5, 0, effect(s, 31)), true);
            due("after", x.after(n % 32), s);
        }
        // The last action call was number 510.
        due("after as the last call", x.after(0), 510 / 2 % 32);
    }

    private static void laterCallsEnd() {
        MethodPlanner x = full();
        for (int n = 0; n < 4 * CALLS; n++) {
            x.action(n % 6, n % 1024, n % 1024);
            x.drop(n % 8);
            x.method(n % 4, 0, n % 256);
            x.rub();
            x.write(n % 6);
            x.write(n % 6);
            x.planned(n % 128, n % 32, n % 16);
            x.accounts(n % 4, n % 32);
            x.useless(n % 8);
        }
    }

    // Terms.

    private static void actionsAtFirst() {
        for (int a = 0; a < 6; a++) {
            MethodPlanner x = new MethodPlanner();
            x.write(a);
            x.method(3, 0, steps(act(a), 0));
            // Another action's numbers are not this one's.
            x.action((a + 1) % 6, 1023, 1023);
            for (int s = 0; s < 32; s++) {
                due("after " + s + " of action " + a, x.after(s), s);
                due("ways of action " + a + " from " + s + " to it", x.ways(3, s, s), 1);
                due("all ways of action " + a + " from " + s, x.allWays(3, s), 1);
                due("accounts of action " + a + " from " + s, x.accounts(3, s), true);
            }
            due("useless, of action " + a, x.useless(0), false);
        }
    }

    private static void atMostTwoSteps() {
        for (int t = 0; t < 4; t++) {
            methodOfActions(t, steps(0, 0));
            for (int a = 0; a < 6; a++) {
                methodOfActions(t, steps(act(a), 0), a);
                methodOfActions(t, steps(0, act(a)), a);
                for (int b = 0; b < 6; b++) {
                    methodOfActions(t, steps(act(a), act(b)), a, b);
                }
            }
        }
        for (int t = 0; t < 3; t++) {
            for (int u = t + 1; u < 4; u++) {
                methodOfTask(t, u, steps(task(u), 0), 2);
                methodOfTask(t, u, steps(0, task(u)), 2);
                methodOfTask(t, u, steps(task(u), act(4)), 2, 4);
                methodOfTask(t, u, steps(act(4), task(u)), 4, 2);
                methodOfTask(t, u, steps(task(u), task(u)), 2, 2);
            }
        }
        MethodPlanner x = new MethodPlanner();
        for (int third = 1; third < 16; third++) {
            due("a third step " + third, x.method(0, 0, 256 * third), BAD);
            due("a third step " + third + " behind two", x.method(0, 0, steps(1, 1) + 256 * third), BAD);
        }
        due("methods after third steps", x.methods(), 0);
    }

    private static void methodOfActions(int t, int steps, int... plan) {
        MethodPlanner x = new MethodPlanner();
        due(of("method", t, 0, steps), x.method(t, 0, steps), 0);
        hasOnlyPlan(x, t, plan);
    }

    private static void methodOfTask(int t, int u, int steps, int... plan) {
        MethodPlanner x = new MethodPlanner();
        due(of("method", u, 0, act(2)), x.method(u, 0, act(2)), 0);
        due(of("method", t, 0, steps), x.method(t, 0, steps), 1);
        hasOnlyPlan(x, t, plan);
    }

    private static void hasOnlyPlan(MethodPlanner x, int t, int... plan) {
        due(of("ways", t, 9, 9), x.ways(t, 9, 9), 1);
        due(of("allWays", t, 9), x.allWays(t, 9), 1);
        planIs(x, t, 9, 9, plan);
        for (int i = 0; i < plan.length; i++) {
            due("accounts before the plan's end", x.accounts(t, 9), false);
            x.write(plan[i]);
        }
        due("accounts of the plan", x.accounts(t, 9), true);
        x.write(0);
        due("accounts behind the plan's end", x.accounts(t, 9), false);
    }

    private static void outBeforeIn() {
        for (int in = 0; in < 32; in++) {
            for (int out = 0; out < 32; out++) {
                MethodPlanner x = new MethodPlanner();
                due(of("action", 4, 0, effect(in, out)), x.action(4, 0, effect(in, out)), true);
                x.write(4);
                x.method(2, 0, steps(act(4), 0));
                for (int s = 0; s < 32; s++) {
                    int e = stateAfter(in, out, s);
                    due("after " + s + " with in " + in + " and out " + out, x.after(s), e);
                    due("ways from " + s + " with in " + in + " and out " + out, x.ways(2, s, e), 1);
                }
            }
        }
    }

    private static int stateAfter(int in, int out, int s) {
        int e = 0;
        for (int f = 0; f < 5; f++) {
            boolean comesIn = (in >> f & 1) == 1;
            boolean goesOut = (out >> f & 1) == 1;
            boolean isThere = (s >> f & 1) == 1;
            // A fact in both sets is there in the end, since it comes in after that.
            e += comesIn || isThere && !goesOut ? 1 << f : 0;
        }
        return e;
    }

    private static void neededAndAvoided() {
        for (int need = 0; need < 32; need++) {
            for (int avoid = 0; avoid < 32; avoid++) {
                MethodPlanner x = new MethodPlanner();
                int condition = condition(need, avoid);
                due(of("action", 4, condition, 0), x.action(4, condition, 0), true);
                due(of("method", 3, 0, act(4)), x.method(3, 0, act(4)), 0);
                due(of("method", 2, condition, 0), x.method(2, condition, 0), 1);
                int states = 0;
                for (int s = 0; s < 32; s++) {
                    boolean holds = isMet(need, avoid, s);
                    states += holds ? 1 : 0;
                    String with = " with need " + need + " and avoid " + avoid;
                    due("doable in " + s + with, x.doable(s), holds ? 12 : 0);
                    x.write(4);
                    due("after " + s + with, x.after(s), holds ? s : BAD);
                    due("accounts in " + s + with, x.accounts(3, s), holds);
                    x.rub();
                    due("accounts of the empty list in " + s + with, x.accounts(2, s), holds);
                }
                // With the same fact in both sets it holds nowhere.
                due("holds nowhere", states == 0, (need & avoid) != 0);
                due("useless, by the action's condition", x.useless(0), (need & avoid) != 0);
                due("useless, by the method's condition", x.useless(1), (need & avoid) != 0);
            }
        }
    }

    private static boolean isMet(int need, int avoid, int s) {
        boolean met = true;
        for (int f = 0; f < 5; f++) {
            boolean isThere = (s >> f & 1) == 1;
            met &= isThere || (need >> f & 1) == 0;
            met &= !isThere || (avoid >> f & 1) == 0;
        }
        return met;
    }

    private static void emptyPlanFirst() {
        MethodPlanner x = new MethodPlanner();
        x.method(3, 0, steps(act(0), 0));
        planIs(x, 3, 4, 4, 0);
        x.method(3, 0, 0);
        planIs(x, 3, 4, 4);
        x.method(2, 0, steps(task(3), task(3)));
        planIs(x, 2, 4, 4);
        x.drop(0);
        planIs(x, 2, 4, 4);
        x.drop(1);
        due("shortest without a plan is not the empty plan's", x.shortest(3, 4, 4), BAD);
        x.method(3, 0, steps(0, act(0)));
        planIs(x, 2, 4, 4, 0, 0);
        for (int i : outside(1)) {
            due(of("planned", end(2, 4), 4, i), x.planned(end(2, 4), 4, i), BAD);
        }
    }

    /** Tasks 0 to 2 do the next task twice, so task 0 does task 3 eight times. */
    private static MethodPlanner eightTimes() {
        MethodPlanner x = new MethodPlanner();
        // Actions 2, 3 and 4 turn fact 4; the others leave everything as it is.
        x.action(2, condition(0, 16), effect(16, 0));
        x.action(3, 0, effect(16, 16));
        x.action(4, condition(16, 0), effect(0, 16));
        for (int t = 0; t < 3; t++) {
            x.method(t, 0, steps(task(t + 1), task(t + 1)));
        }
        return x;
    }

    private static int[] sixteen(int all, int at, int action) {
        int[] plan = new int[16];
        Arrays.fill(plan, all);
        plan[at] = action;
        return plan;
    }

    private static void longestPlansByLength() {
        MethodPlanner x = eightTimes();
        // Task 3 can't be done any more where fact 4 is, so it comes in at the last of the eight.
        x.method(3, condition(0, 16), steps(act(0), act(0)));
        x.method(3, condition(0, 16), steps(act(0), act(2)));
        planIs(x, 0, 0, 16, sixteen(0, 15, 2));
        due("ways of sixteen actions", x.ways(0, 0, 16), 1);
        x.method(3, condition(0, 16), steps(act(3), 0));
        due("ways of sixteen and of fifteen actions", x.ways(0, 0, 16), 2);
        // The shorter one is first, though it is behind the other in a dictionary.
        planIs(x, 0, 0, 16, 0, 0, 0, 0, 0, 0, 0, 0, 0, 0, 0, 0, 0, 0, 3);
        planIs(x, 0, 0, 0, sixteen(0, 0, 0));
        for (int i : outside(15)) {
            due(of("planned", end(0, 0), 0, i), x.planned(end(0, 0), 0, i), BAD);
        }
        x.method(3, condition(0, 16), 0);
        planIs(x, 0, 0, 0);
        planIs(x, 0, 0, 16, 3);
    }

    private static void longestPlansInDictionaryOrder() {
        MethodPlanner x = eightTimes();
        x.method(3, condition(0, 16), steps(act(5), act(5)));
        x.method(3, condition(0, 16), steps(act(5), act(3)));
        planIs(x, 0, 0, 16, sixteen(5, 15, 3));
        x.method(3, condition(0, 16), steps(act(5), act(2)));
        due("ways that differ in the last action", x.ways(0, 0, 16), 2);
        planIs(x, 0, 0, 16, sixteen(5, 15, 2));
        planIs(x, 0, 0, 0, sixteen(5, 15, 5));
        x.method(3, condition(16, 0), steps(act(4), act(5)));
        x.drop(4);
        x.drop(5);
        planIs(x, 0, 16, 0, sixteen(5, 0, 4));
        x.method(3, condition(16, 0), steps(act(0), act(4)));
        due("ways that differ in the first actions", x.ways(0, 16, 0), 2);
        int[] plan = sixteen(5, 0, 0);
        plan[1] = 4;
        planIs(x, 0, 16, 0, plan);
        due("the same for task 1", x.shortest(1, 16, 0), 8);
        due("the same for task 2", x.shortest(2, 16, 0), 4);
    }

    private static void shortPlansInDictionaryOrder() {
        for (int p = 0; p < 36; p++) {
            for (int q = 0; q < 36; q++) {
                MethodPlanner x = new MethodPlanner();
                x.method(1, 0, steps(act(p / 6), act(p % 6)));
                x.method(1, 0, steps(act(q / 6), act(q % 6)));
                // Read as two digits to the base 6, the lesser number is the first plan.
                int first = p < q ? p : q;
                planIs(x, 1, 31, 31, first / 6, first % 6);
                due("both are ways", x.ways(1, 31, 31), 2);
            }
        }
    }

    // Promises 1 to 5.

    private static void newObject() {
        MethodPlanner x = new MethodPlanner();
        due("methods", x.methods(), 0);
        for (int m = 0; m < 8; m++) {
            due(of("drop", m), x.drop(m), false);
            due(of("useless", m), x.useless(m), false);
        }
        due("rub", x.rub(), BAD);
        for (int s = 0; s < 32; s++) {
            due(of("after", s), x.after(s), s);
            due(of("doable", s), x.doable(s), 0);
            for (int t = 0; t < 4; t++) {
                due(of("allWays", t, s), x.allWays(t, s), 0);
                due(of("accounts", t, s), x.accounts(t, s), false);
                due(of("nextEnd", t, s, 0), x.nextEnd(t, s, 0), BAD);
            }
        }
        due("the first write", x.write(0), 1);
        due("the first method", x.method(0, 0, 0), 0);
        // Another new object has nothing of what the first one has been given.
        MethodPlanner y = new MethodPlanner();
        due("methods of another", y.methods(), 0);
        due("rub of another", y.rub(), BAD);
    }

    private static void actionRefused() {
        for (int a : edges(5)) {
            for (int c : edges(1023)) {
                MethodPlanner x = new MethodPlanner();
                for (int f : edges(1023)) {
                    boolean good = within(a, 5) && within(c, 1023) && within(f, 1023);
                    due(of("action", a, c, f), x.action(a, c, f), good);
                }
            }
        }
        for (int a : outside(5)) {
            actionUnchanged(a, condition(3, 4), effect(5, 6));
        }
        for (int a = 0; a < 6; a++) {
            for (int no : nearest(1023)) {
                actionUnchanged(a, no, effect(8, 1));
                actionUnchanged(a, condition(1, 2), no);
            }
        }
        actionAtTheLastValues();
    }

    private static void actionUnchanged(int a, int c, int f) {
        MethodPlanner x = some();
        due(of("action", a, c, f), x.action(a, c, f), false);
        unchanged(of("action", a, c, f), Kind.SOME, y -> y.action(a, c, f));
    }

    private static void actionAtTheLastValues() {
        for (int a : new int[] {0, 5}) {
            MethodPlanner x = new MethodPlanner();
            x.write(a);
            due(of("action", a, 0, 1023), x.action(a, 0, 1023), true);
            due("after 0 of all in", x.after(0), 31);
            due(of("action", a, 1023, 0), x.action(a, 1023, 0), true);
            due("after 31 of what needs and avoids all", x.after(31), BAD);
            due("after 0 of what needs and avoids all", x.after(0), BAD);
            due(of("action", a, 0, 0), x.action(a, 0, 0), true);
            due("after 31 of nothing", x.after(31), 31);
        }
    }

    private static void leastFreeNumber() {
        for (int kept = 0; kept < 256; kept++) {
            MethodPlanner x = new MethodPlanner();
            for (int m = 0; m < 8; m++) {
                due("method number " + m, x.method(m % 4, 0, 0), m);
            }
            for (int m = 0; m < 8; m++) {
                if ((kept >> m & 1) == 0) {
                    due(of("drop", m), x.drop(m), true);
                }
            }
            due("methods", x.methods(), kept);
            int there = kept;
            for (int m = 0; m < 8; m++) {
                if ((kept >> m & 1) == 0) {
                    due("method with " + there + " there", x.method(3 - m % 4, 0, 0), m);
                    there += 1 << m;
                    due("methods", x.methods(), there);
                }
            }
            due("method with all there", x.method(0, 0, 0), FULL);
        }
    }

    private static void methodRefused() {
        for (int t : edges(3)) {
            for (int c : edges(1023)) {
                MethodPlanner x = new MethodPlanner();
                boolean good = within(t, 3) && within(c, 1023);
                due(of("method", t, c, 0), x.method(t, c, 0), good ? 0 : BAD);
                due(of("method", t, c, 0) + ", then methods", x.methods(), good ? 1 : 0);
                due(of("method", t, c, 7), x.method(t, c, 7), BAD);
                due(of("method", t, c, 256), x.method(t, c, 256), BAD);
            }
        }
        for (int t : outside(3)) {
            methodUnchanged(t, 0, steps(act(0), act(5)));
        }
        for (int t = 0; t < 4; t++) {
            for (int c : nearest(1023)) {
                methodUnchanged(t, c, steps(act(0), act(5)));
            }
        }
        MethodPlanner x = new MethodPlanner();
        due("method of the last task with the last condition", x.method(3, 1023, 0), 0);
        due("it holds nowhere", x.useless(0), true);
        due("method of the first task with the condition 0", x.method(0, 0, 0), 1);
        due("it holds in 0", x.doable(0), 1);
        due("it holds in 31", x.doable(31), 1);
    }

    private static void methodUnchanged(int t, int c, int steps) {
        MethodPlanner x = some();
        due(of("method", t, c, steps), x.method(t, c, steps), BAD);
        unchanged(of("method", t, c, steps), Kind.SOME, y -> y.method(t, c, steps));
    }

    private static boolean isStep(int t, int step) {
        return within(step, 6) || step >= 8 && within(step - 8, 3) && step - 8 > t;
    }

    private static void stepsRefused() {
        for (int t = 0; t < 4; t++) {
            for (int steps = -300; steps < 600; steps++) {
                MethodPlanner x = new MethodPlanner();
                boolean good = within(steps, 255) && isStep(t, steps % 16) && isStep(t, steps / 16);
                due(of("method", t, 0, steps), x.method(t, 0, steps), good ? 0 : BAD);
                due(of("method", t, 0, steps) + ", then methods", x.methods(), good ? 1 : 0);
            }
        }
        for (int t = 0; t < 4; t++) {
            // Neither action nor task, the tasks 4 and 7, the method's own task and the one before it.
            int[] no = {7, 12, 15, task(t), t > 0 ? task(t - 1) : 7};
            for (int step : no) {
                methodUnchanged(t, 0, steps(step, 0));
                methodUnchanged(t, 0, steps(0, step));
                methodUnchanged(t, 0, steps(act(5), step));
            }
            for (int steps : nearest(255)) {
                methodUnchanged(t, 0, steps);
            }
        }
    }

    private static void methodFull() {
        MethodPlanner x = full();
        due("method when there are eight", x.method(0, 0, 0), FULL);
        due("method when there are eight, for the last task", x.method(3, 1023, steps(act(5), act(5))), FULL);
        due("method when there are eight, with tasks", x.method(2, 0, steps(task(3), task(3))), FULL);
        for (int no : outside(3)) {
            due(of("method", no, 0, 0), x.method(no, 0, 0), BAD);
        }
        for (int no : outside(1023)) {
            due(of("method", 0, no, 0), x.method(0, no, 0), BAD);
        }
        for (int no : outside(255)) {
            due(of("method", 0, 0, no), x.method(0, 0, no), BAD);
        }
        stepsWhenFull();
        due("methods", x.methods(), 255);
        for (int t = 0; t < 4; t++) {
            ninthMethodUnchanged(t, 0, 0);
            ninthMethodUnchanged(t, condition(16, 2), steps(act(5), act(4)));
            ninthMethodUnchanged(t, 1023, steps(act(0), t < 3 ? task(3) : act(1)));
        }
        unchanged("a wrong ninth method", Kind.FULL, y -> y.method(4, 0, 0));
        unchanged("a ninth method of wrong steps", Kind.FULL, y -> y.method(3, 0, task(3)));
        due("drop", x.drop(7), true);
        due("method when there are seven", x.method(0, 0, 0), 7);
    }

    private static void ninthMethodUnchanged(int t, int c, int steps) {
        due(of("method", t, c, steps) + " when full", full().method(t, c, steps), FULL);
        unchanged(of("method", t, c, steps), Kind.FULL, x -> x.method(t, c, steps));
    }

    private static void stepsWhenFull() {
        MethodPlanner x = full();
        for (int steps = 0; steps < 256; steps++) {
            boolean good = isStep(1, steps % 16) && isStep(1, steps / 16);
            due(of("method", 1, 0, steps) + " when full", x.method(1, 0, steps), good ? FULL : BAD);
        }
    }

    private static void dropRefused() {
        for (int m : outside(7)) {
            MethodPlanner x = full();
            due(of("drop", m), x.drop(m), false);
            due(of("drop", m) + ", then methods", x.methods(), 255);
            unchanged(of("drop", m), Kind.SOME, y -> y.drop(m));
            unchanged(of("drop", m), Kind.FULL, y -> y.drop(m));
        }
        MethodPlanner x = some();
        due("drop of a number that is free", x.drop(1), false);
        due("drop of another number that is free", x.drop(6), false);
        unchanged("drop of a number that is free", Kind.SOME, y -> y.drop(1));
        unchanged("drop of another number that is free", Kind.SOME, y -> y.drop(6));
        for (int m = 0; m < 8; m++) {
            due(of("drop", m), x.drop(m), m != 1 && m != 6);
            due(of("drop", m) + " again", x.drop(m), false);
        }
        unchanged("drops where there are none", Kind.NEW, y -> {
            for (int m : edges(7)) {
                y.drop(m);
            }
        });
        due("methods when all are dropped", x.methods(), 0);
        MethodPlanner y = full();
        due("drop of the first", y.drop(0), true);
        due("drop of the last", y.drop(7), true);
        due("methods without the first and the last", y.methods(), 126);
    }

    // Promises 6 to 10.

    private interface Asked {
        int with(MethodPlanner x, int t, int s, int e);
    }

    /** A call with task, state and end: each of them at its edges, and together. */
    private static void threeEdges(String name, Asked asked, Asked want) {
        for (int t : edges(3)) {
            for (int s : edges(31)) {
                MethodPlanner x = corners();
                for (int e : edges(31)) {
                    boolean good = within(t, 3) && within(s, 31) && within(e, 31);
                    due(of(name, t, s, e), asked.with(x, t, s, e), good ? want.with(x, t, s, e) : BAD);
                }
            }
        }
        unchangedAnywhere("refused calls of " + name, x -> {
            for (int no : outside(3)) {
                asked.with(x, no, 0, 0);
            }
            for (int no : outside(31)) {
                asked.with(x, 0, no, 0);
                asked.with(x, 3, 31, no);
            }
        });
    }

    private static void waysRefused() {
        threeEdges("ways", (x, t, s, e) -> x.ways(t, s, e), (x, t, s, e) -> 1);
        due("ways to a state between", corners().ways(3, 31, 30), 0);
        due("ways to another state between", corners().ways(0, 0, 1), 0);
    }

    private static void allWaysRefused() {
        for (int t : edges(3)) {
            MethodPlanner x = corners();
            MethodPlanner y = new MethodPlanner();
            for (int s : edges(31)) {
                boolean good = within(t, 3) && within(s, 31);
                due(of("allWays", t, s), x.allWays(t, s), good ? 2 : BAD);
                due(of("allWays", t, s) + " of a new object", y.allWays(t, s), good ? 0 : BAD);
            }
        }
        unchangedAnywhere("refused calls of allWays", x -> {
            for (int no : outside(3)) {
                x.allWays(no, 0);
            }
            for (int no : outside(31)) {
                x.allWays(3, no);
            }
        });
    }

    private static void nextEndRefused() {
        threeEdges("nextEnd", (x, t, s, e) -> x.nextEnd(t, s, e), (x, t, s, e) -> e);
    }

    private static void noNextEnd() {
        for (int end = 0; end < 32; end++) {
            MethodPlanner x = new MethodPlanner();
            x.action(3, 0, effect(end, 31));
            x.method(3, condition(0, 1), steps(act(3), 0));
            for (int e = 0; e < 32; e++) {
                due(of("nextEnd", 3, 30, e) + " with the end " + end, x.nextEnd(3, 30, e), e <= end ? end : BAD);
                due("nextEnd where it can't be done", x.nextEnd(3, 31, e), BAD);
                due("nextEnd without a method", x.nextEnd(2, 30, e), BAD);
            }
            due("shortest after it", x.shortest(3, 30, end), 1);
            x.drop(0);
            due("nextEnd after drop", x.nextEnd(3, 30, end), BAD);
        }
        MethodPlanner x = corners();
        for (int e = 1; e < 32; e++) {
            due(of("nextEnd", 0, 0, e), x.nextEnd(0, 0, e), 31);
        }
        due("nextEnd from 0 on", x.nextEnd(0, 0, 0), 0);
        unchangedAnywhere("nextEnd where there is none", y -> y.nextEnd(0, 31, 31));
    }

    private static void shortestRefused() {
        threeEdges("shortest", (x, t, s, e) -> x.shortest(t, s, e), (x, t, s, e) -> t < 2 ? 1 : 2);
    }

    private static void noShortest() {
        for (int t = 0; t < 4; t++) {
            MethodPlanner x = corners();
            for (int e = 0; e < 32; e++) {
                int want = e != 0 && e != 31 ? BAD : t < 2 ? 1 : 2;
                due(of("shortest", t, 7, e), x.shortest(t, 7, e), want);
            }
            MethodPlanner y = new MethodPlanner();
            due("shortest without a method", y.shortest(t, 0, 0), BAD);
            y.method(t, condition(0, 16), 0);
            due("shortest of nothing to do", y.shortest(t, 15, 15), 0);
            due("shortest where the condition doesn't hold", y.shortest(t, 16, 16), BAD);
            y.drop(0);
            due("shortest after drop", y.shortest(t, 15, 15), BAD);
        }
        unchangedAnywhere("shortest where there is none", y -> y.shortest(0, 31, 31));
    }

    private static void plannedRefused() {
        for (int te : edges(127)) {
            for (int s : edges(31)) {
                MethodPlanner x = corners();
                boolean good = within(te, 127) && within(s, 31);
                // te 0 is task 0 to state 0 by action 0; te 127 is task 3 to state 31 by 5 and 1.
                due(of("planned", te, s, 0), x.planned(te, s, 0), !good ? BAD : te == 0 ? 0 : 5);
                due(of("planned", te, s, 1), x.planned(te, s, 1), !good || te == 0 ? BAD : 1);
            }
        }
        for (int t = 0; t < 4; t++) {
            MethodPlanner x = corners();
            due("planned to state 0, task " + t, x.planned(end(t, 0), 31, t < 2 ? 0 : 1), 0);
            due("planned to state 31, task " + t, x.planned(end(t, 31), 0, t < 2 ? 0 : 1), 1);
        }
        unchangedAnywhere("refused calls of planned", x -> {
            for (int no : outside(127)) {
                x.planned(no, 0, 0);
            }
            for (int no : outside(31)) {
                x.planned(0, no, 0);
            }
        });
    }

    private static void noPlanned() {
        MethodPlanner x = corners();
        for (int no : outside(0)) {
            due(of("planned", end(0, 0), 0, no), x.planned(end(0, 0), 0, no), BAD);
        }
        for (int no : outside(1)) {
            due(of("planned", end(3, 31), 31, no), x.planned(end(3, 31), 31, no), BAD);
        }
        due("planned, the first", x.planned(end(3, 31), 31, 0), 5);
        due("planned, the last", x.planned(end(3, 31), 31, 1), 1);
        for (int e = 1; e < 31; e++) {
            due("planned to a state without a way", x.planned(end(3, e), 31, 0), BAD);
        }
        MethodPlanner y = new MethodPlanner();
        due("planned without a method", y.planned(0, 0, 0), BAD);
        y.method(0, 0, 0);
        for (int i : edges(31)) {
            due("planned, number " + i + " of the empty plan", y.planned(0, 0, i), BAD);
        }
        unchangedAnywhere("planned where there is none", z -> {
            for (int no : outside(15)) {
                z.planned(0, 0, no);
                z.planned(127, 31, no);
            }
        });
    }

    // Promises 11 to 17.

    private static void writeRefused() {
        for (int a : edges(5)) {
            MethodPlanner x = new MethodPlanner();
            due(of("write", a), x.write(a), within(a, 5) ? 1 : BAD);
            due(of("write", a) + ", then rub", x.rub(), within(a, 5) ? a : BAD);
        }
        for (int a : outside(5)) {
            MethodPlanner x = some();
            due(of("write", a) + " to five", x.write(a), BAD);
            due("the sixth after it", x.write(5), 6);
        }
    }

    private static void writeFull() {
        for (int a = 0; a < 6; a++) {
            MethodPlanner x = new MethodPlanner();
            for (int length = 1; length <= 8; length++) {
                due("write number " + length, x.write(a), length);
            }
            for (int b = 0; b < 6; b++) {
                due("write number 9", x.write(b), FULL);
            }
            due("rub after FULL", x.rub(), a);
            due("write number 8 again", x.write(5 - a), 8);
            due("write number 9 again", x.write(a), FULL);
            due("rub after FULL again", x.rub(), 5 - a);
            for (int length = 7; length > 0; length--) {
                due("rub of " + length, x.rub(), a);
            }
            due("rub of none", x.rub(), BAD);
        }
    }

    private static void rubRefused() {
        MethodPlanner x = new MethodPlanner();
        for (int i = 0; i < 20; i++) {
            due("rub of a new object", x.rub(), BAD);
        }
        due("write after it", x.write(5), 1);
        due("rub of the only one", x.rub(), 5);
        due("rub of none", x.rub(), BAD);
        due("write after it", x.write(0), 1);
        due("rub of action 0", x.rub(), 0);
        due("rub of none again", x.rub(), BAD);
        unchanged("rub of a new object", Kind.NEW, y -> y.rub());
        unchanged("rub of none", Kind.RUBBED, y -> {
            y.rub();
            y.rub();
        });
    }

    private static void accountsRefused() {
        for (int t : edges(3)) {
            MethodPlanner x = corners();
            MethodPlanner y = new MethodPlanner();
            for (int u = 0; u < 4; u++) {
                y.method(u, 0, 0);
            }
            for (int s : edges(31)) {
                boolean good = within(t, 3) && within(s, 31);
                due(of("accounts", t, s), x.accounts(t, s), good && t >= 2);
                due(of("accounts", t, s) + " of the empty list", y.accounts(t, s), good);
            }
        }
        unchangedAnywhere("refused calls of accounts", x -> {
            for (int no : outside(3)) {
                x.accounts(no, 0);
            }
            for (int no : outside(31)) {
                x.accounts(3, no);
            }
        });
        accountsOfTheFullList();
    }

    private static void accountsOfTheFullList() {
        MethodPlanner x = new MethodPlanner();
        for (int t = 0; t < 3; t++) {
            x.method(t, 0, steps(task(t + 1), task(t + 1)));
        }
        x.method(3, 0, steps(act(5), act(0)));
        for (int i = 0; i < 4; i++) {
            due("accounts of less than eight", x.accounts(1, 31), false);
            writeAll(x, 5, 0);
        }
        due("accounts of eight", x.accounts(1, 31), true);
        due("accounts of eight for a plan of sixteen", x.accounts(0, 31), false);
        due("accounts of eight for a plan of four", x.accounts(2, 31), false);
        x.rub();
        x.write(1);
        due("accounts of eight with another last one", x.accounts(1, 31), false);
    }

    private static void afterRefused() {
        for (int s : edges(31)) {
            MethodPlanner x = new MethodPlanner();
            due(of("after", s) + " of the empty list", x.after(s), within(s, 31) ? s : BAD);
            due(of("after", s), corners().after(s), within(s, 31) ? 31 : BAD);
        }
        unchangedAnywhere("refused calls of after", x -> {
            for (int no : outside(31)) {
                x.after(no);
            }
        });
    }

    private static void afterCannotBeDone() {
        for (int at = 0; at < 8; at++) {
            MethodPlanner x = new MethodPlanner();
            // Action 1 needs fact 0, and action 2 takes it away; action 3 brings it back.
            x.action(1, condition(1, 0), 0);
            x.action(2, 0, effect(0, 1));
            x.action(3, 0, effect(1, 0));
            for (int i = 0; i < 8; i++) {
                x.write(i == at ? 1 : 0);
            }
            due("after, number " + at + " can't be done", x.after(30), BAD);
            due("after, number " + at + " can be done", x.after(31), 31);
            due("accounts of what can't be done", x.accounts(0, 30), false);
            if (at > 0) {
                canNotBeDoneOnTheWay(at);
            }
        }
        unchangedAnywhere("after of what can't be done", x -> x.after(1));
    }

    private static void canNotBeDoneOnTheWay(int at) {
        MethodPlanner x = new MethodPlanner();
        x.action(1, condition(1, 0), 0);
        x.action(2, 0, effect(0, 1));
        x.action(3, 0, effect(1, 0));
        for (int i = 0; i < 8; i++) {
            x.write(i == at ? 1 : i == at - 1 ? 2 : 3);
        }
        due("after, number " + at + " can't be done any more", x.after(31), BAD);
        x.action(2, 0, effect(1, 1));
        due("after, number " + at + " can be done again", x.after(30), 31);
    }

    private static void doableRefused() {
        for (int s : edges(31)) {
            due(of("doable", s), corners().doable(s), within(s, 31) ? 15 : BAD);
            due(of("doable", s) + " of a new object", new MethodPlanner().doable(s), within(s, 31) ? 0 : BAD);
        }
        unchangedAnywhere("refused calls of doable", x -> {
            for (int no : outside(31)) {
                x.doable(no);
            }
        });
        for (int t = 0; t < 4; t++) {
            MethodPlanner x = new MethodPlanner();
            x.method(t, condition(31, 0), 0);
            due("doable of task " + t + " in the last state", x.doable(31), 1 << t);
            due("doable of task " + t + " in the first state", x.doable(0), 0);
        }
    }

    private static void uselessRefused() {
        MethodPlanner x = new MethodPlanner();
        for (int m = 0; m < 8; m++) {
            due(of("useless", m) + " before it is there", x.useless(m), false);
            x.method(m % 4, 1023, 0);
            due(of("useless", m), x.useless(m), true);
        }
        for (int no : outside(7)) {
            due(of("useless", no), x.useless(no), false);
        }
        for (int m = 0; m < 8; m++) {
            x.drop(m);
            due(of("useless", m) + " after drop", x.useless(m), false);
        }
        unchangedAnywhere("refused calls of useless", y -> {
            for (int no : outside(7)) {
                y.useless(no);
            }
            for (int m = 0; m < 8; m++) {
                y.useless(m);
            }
        });
    }

    private static void writeBadBeforeFull() {
        for (int a : edges(5)) {
            MethodPlanner x = full();
            due(of("write", a) + " to eight", x.write(a), within(a, 5) ? FULL : BAD);
            x.rub();
            due(of("write", a) + " to seven", x.write(a), within(a, 5) ? 8 : BAD);
        }
    }

    private static void refusedWritesChangeNothing() {
        for (int a : edges(5)) {
            unchanged(of("write", a) + " to eight", Kind.FULL, x -> x.write(a));
        }
        for (int a : outside(5)) {
            unchanged(of("write", a) + " to five", Kind.SOME, x -> x.write(a));
            unchanged(of("write", a) + " to none", Kind.NEW, x -> x.write(a));
        }
        MethodPlanner x = full();
        int[] list = {5, 1, 2, 3, 2, 1, 2, 5};
        for (int a : edges(5)) {
            x.write(a);
        }
        for (int i = 7; i >= 0; i--) {
            due("rub after refused writes", x.rub(), list[i]);
        }
        due("rub at the end", x.rub(), BAD);
    }
}
