/** Each promise of the document by hand: ordinary inputs, the edges it names, and wrong inputs. */
public final class PromisesTest {
    private static final int[] NO_NUMBERS = {-1, Integer.MIN_VALUE, Integer.MAX_VALUE};
    private static final int BAD = MethodPlanner.BAD;
    private static final int FULL = MethodPlanner.FULL;

    private static int wrong = 0;

    private static void due(String what, int got, int want) {
        if (got != want) {
            wrong++;
            System.out.println(what + " answered " + got + ", due is " + want);
        }
    }

    private static void due(String what, boolean got, boolean want) {
        due(what, got ? 1 : 0, want ? 1 : 0);
    }

    public static void main(String[] args) {
        newObject();
        action();
        actionEffects();
        actionConditions();
        actionWrong();
        actionChangesStandingMethods();
        method();
        methodSteps();
        methodBadBeforeFull();
        drop();
        methods();
        ways();
        mostWays();
        allWays();
        nextEnd();
        shortest();
        planOrder();
        planned();
        longestPlan();
        write();
        rub();
        accounts();
        accountsWithWaysOfManyLengths();
        after();
        doable();
        useless();
        orderAndLimits();
        if (wrong != 0) {
            System.out.println(wrong + " answers are not as due");
            System.exit(1);
        }
        System.out.println("all answers are as due");
    }

    private static int condition(int need, int avoid) {
        return need + 32 * avoid;
    }

    private static int effect(int in, int out) {
        return in + 32 * out;
    }

    private static int act(int a) {
        return 1 + a;
    }

    private static int task(int u) {
        return 8 + u;
    }

    private static int steps(int first, int second) {
        return first + 16 * second;
    }

    private static int end(int t, int e) {
        return t + 4 * e;
    }

    private static void writeAll(MethodPlanner x, int... actions) {
        for (int i = 0; i < actions.length; i++) {
            due("write(" + actions[i] + ")", x.write(actions[i]), i + 1);
        }
    }

    private static void rubAll(MethodPlanner x) {
        for (int i = 0; i < 8; i++) {
            x.rub();
        }
    }

    private static void planIs(MethodPlanner x, int t, int s, int e, int... plan) {
        String call = "of task " + t + " in " + s + " to " + e;
        due("shortest " + call, x.shortest(t, s, e), plan.length);
        for (int i = 0; i < plan.length; i++) {
            due("planned " + i + " " + call, x.planned(end(t, e), s, i), plan[i]);
        }
        due("planned behind the end " + call, x.planned(end(t, e), s, plan.length), BAD);
    }

    private static void newObject() {
        MethodPlanner x = new MethodPlanner();
        due("new: methods", x.methods(), 0);
        due("new: rub", x.rub(), BAD);
        for (int s = 0; s < 32; s++) {
            due("new: after", x.after(s), s);
            due("new: doable", x.doable(s), 0);
            for (int t = 0; t < 4; t++) {
                due("new: allWays", x.allWays(t, s), 0);
                due("new: accounts", x.accounts(t, s), false);
            }
        }
        MethodPlanner y = new MethodPlanner();
        due("new: at first actions can be done everywhere", y.method(0, 0, steps(act(0), act(5))), 0);
        for (int s = 0; s < 32; s++) {
            due("new: at first actions change nothing", y.ways(0, s, s), 1);
            due("new: and do so in one way", y.allWays(0, s), 1);
        }
        due("constants: BAD", MethodPlanner.BAD, -1);
        due("constants: FULL", MethodPlanner.FULL, -2);
    }

    private static void action() {
        MethodPlanner x = new MethodPlanner();
        due("action 0", x.action(0, 0, effect(1, 0)), true);
        due("action 5", x.action(5, 1023, 1023), true);
        due("action with zeros", x.action(1, 0, 0), true);
        writeAll(x, 0);
        due("action: after", x.after(0), 1);
        due("action: given anew", x.action(0, 0, effect(2, 0)), true);
        due("action: after the new effect", x.after(0), 2);
    }

    private static void actionEffects() {
        MethodPlanner x = new MethodPlanner();
        writeAll(x, 3);
        x.action(3, 0, effect(0, 5));
        due("effect: out", x.after(31), 26);
        due("effect: out of what isn't there", x.after(2), 2);
        x.action(3, 0, effect(16, 0));
        due("effect: in", x.after(3), 19);
        due("effect: in of what is there", x.after(16), 16);
        x.action(3, 0, effect(1, 3));
        due("effect: in comes after out", x.after(3), 1);
        due("effect: in comes after out, not there", x.after(0), 1);
        x.action(3, 0, effect(31, 31));
        due("effect: all", x.after(9), 31);
        x.action(3, 0, effect(0, 31));
        due("effect: nothing left", x.after(31), 0);
    }

    private static void actionConditions() {
        MethodPlanner x = new MethodPlanner();
        writeAll(x, 2);
        x.action(2, condition(5, 8), 0);
        due("condition: holds", x.after(5), 5);
        due("condition: holds with more", x.after(23), 23);
        due("condition: one needed is not there", x.after(4), BAD);
        due("condition: none needed is there", x.after(2), BAD);
        due("condition: one to avoid is there", x.after(13), BAD);
        x.action(2, condition(1, 1), 0);
        due("condition: needed and avoided, without", x.after(0), BAD);
        due("condition: needed and avoided, with", x.after(1), BAD);
        x.action(2, condition(0, 31), 0);
        due("condition: the empty state", x.after(0), 0);
        due("condition: fact 4 to avoid", x.after(16), BAD);
        x.action(2, condition(31, 0), 0);
        due("condition: the full state", x.after(31), 31);
        due("condition: fact 4 needed", x.after(15), BAD);
    }

    private static void actionWrong() {
        MethodPlanner x = new MethodPlanner();
        for (int a = 0; a < 6; a++) {
            x.action(a, condition(1, 0), effect(2, 1));
        }
        due("action 6", x.action(6, 0, 0), false);
        due("action: condition 1024", x.action(0, 1024, 0), false);
        due("action: effect 1024", x.action(0, 0, 1024), false);
        for (int no : NO_NUMBERS) {
            due("action " + no, x.action(no, 0, 0), false);
            due("action: condition " + no, x.action(0, no, 0), false);
            due("action: effect " + no, x.action(0, 0, no), false);
        }
        for (int a = 0; a < 6; a++) {
            x.write(a);
            due("action: a wrong call kept the effect", x.after(1), 2);
            due("action: a wrong call kept the condition", x.after(0), BAD);
            x.rub();
        }
    }

    private static void actionChangesStandingMethods() {
        MethodPlanner x = new MethodPlanner();
        x.method(3, 0, steps(act(0), 0));
        x.method(0, 0, steps(task(3), 0));
        due("standing method: before", x.ways(0, 0, 0), 1);
        x.action(0, 0, effect(4, 0));
        due("standing method: no more", x.ways(0, 0, 0), 0);
        due("standing method: now", x.ways(0, 0, 4), 1);
        x.action(0, condition(1, 0), effect(4, 0));
        due("standing method: can't be done", x.doable(0), 0);
        due("standing method: can be done", x.doable(1), 9);
    }

    private static void method() {
        MethodPlanner x = new MethodPlanner();
        for (int m = 0; m < 8; m++) {
            due("method " + m, x.method(m % 4, 1023, 0), m);
        }
        due("method: ninth", x.method(0, 0, 0), FULL);
        due("method: ninth added nothing", x.doable(0), 0);
        x.drop(5);
        x.drop(2);
        due("method: least free", x.method(0, 0, 0), 2);
        due("method: next free", x.method(1, condition(0, 1), 0), 5);
        due("method: full again", x.method(0, 0, 0), FULL);
        due("method: what was dropped is forgotten", x.doable(0), 3);
        due("method: its condition counts", x.doable(1), 1);
    }

    private static void methodSteps() {
        for (int t = 0; t < 4; t++) {
            for (int first = 0; first < 16; first++) {
                for (int second = 0; second < 16; second++) {
                    MethodPlanner x = new MethodPlanner();
                    boolean good = stepIsGood(t, first) && stepIsGood(t, second);
                    due("method: steps " + first + " and " + second + " of task " + t,
                            x.method(t, 0, steps(first, second)), good ? 0 : BAD);
                    due("method: there", x.methods(), good ? 1 : 0);
                }
            }
        }
        MethodPlanner x = new MethodPlanner();
        due("method: task 4", x.method(4, 0, 0), BAD);
        due("method: condition 1024", x.method(0, 1024, 0), BAD);
        due("method: steps 256", x.method(0, 0, 256), BAD);
        due("method: steps 257", x.method(0, 0, 257), BAD);
        for (int no : NO_NUMBERS) {
            due("method: task " + no, x.method(no, 0, 0), BAD);
            due("method: condition " + no, x.method(0, no, 0), BAD);
            due("method: steps " + no, x.method(0, 0, no), BAD);
        }
        due("method: wrong calls added nothing", x.methods(), 0);
        x.action(0, 0, effect(1, 0));
        x.action(1, condition(1, 0), effect(2, 0));
        x.method(0, 0, steps(act(0), act(1)));
        x.method(1, 0, steps(act(1), act(0)));
        x.method(2, 0, steps(0, act(0)));
        due("method: the first step comes first", x.ways(0, 0, 3), 1);
        due("method: the second step comes second", x.allWays(1, 0), 0);
        due("method: a second step alone", x.ways(2, 0, 1), 1);
    }

    private static boolean stepIsGood(int t, int step) {
        switch (step) {
            case 0: case 1: case 2: case 3: case 4: case 5: case 6:
                return true;
            case 9:
                return t == 0;
            case 10:
                return t == 0 || t == 1;
            case 11:
                return t == 0 || t == 1 || t == 2;
            default:
                return false;
        }
    }

    private static void methodBadBeforeFull() {
        MethodPlanner x = new MethodPlanner();
        for (int m = 0; m < 8; m++) {
            x.method(0, 0, 0);
        }
        due("full: task", x.method(4, 0, 0), BAD);
        due("full: condition", x.method(0, 1024, 0), BAD);
        due("full: steps", x.method(0, 0, 7), BAD);
        due("full: second step", x.method(0, 0, steps(0, 7)), BAD);
        due("full: too small a task", x.method(1, 0, steps(0, task(1))), BAD);
        due("full: steps 256", x.method(0, 0, 256), BAD);
        due("full: FULL", x.method(0, 0, 0), FULL);
        due("full: nothing changed", x.methods(), 255);
        due("full: ways", x.allWays(0, 0), 8);
    }

    private static void drop() {
        MethodPlanner x = new MethodPlanner();
        due("drop: none", x.drop(0), false);
        x.method(3, 0, 0);
        x.method(3, 0, 0);
        x.method(2, 0, steps(task(3), 0));
        due("drop: before", x.allWays(2, 0), 2);
        due("drop: 0", x.drop(0), true);
        due("drop: again", x.drop(0), false);
        due("drop: ways that used it", x.allWays(2, 0), 1);
        due("drop: never there", x.drop(3), false);
        due("drop: 8", x.drop(8), false);
        due("drop: 32", x.drop(32), false);
        due("drop: 33", x.drop(33), false);
        for (int no : NO_NUMBERS) {
            due("drop: " + no, x.drop(no), false);
        }
        due("drop: the rest stands", x.methods(), 6);
        due("drop: 1", x.drop(1), true);
        due("drop: no way left", x.doable(0), 0);
        due("drop: 2", x.drop(2), true);
        due("drop: none left", x.methods(), 0);
    }

    private static void methods() {
        MethodPlanner x = new MethodPlanner();
        int all = 0;
        for (int m = 0; m < 8; m++) {
            x.method(0, 0, 0);
            all += 1 << m;
            due("methods: up to " + m, x.methods(), all);
        }
        x.drop(7);
        due("methods: without 7", x.methods(), 127);
        x.drop(0);
        due("methods: without 0", x.methods(), 126);
        x.method(3, 0, 0);
        due("methods: with 0", x.methods(), 127);
    }

    private static void ways() {
        MethodPlanner x = new MethodPlanner();
        x.action(0, 0, effect(1, 0));
        x.action(1, condition(1, 0), effect(2, 1));
        x.method(3, 0, steps(act(0), 0));
        x.method(3, 0, steps(act(0), 0));
        x.method(3, condition(0, 4), steps(act(0), act(1)));
        x.method(3, condition(1, 0), 0);
        due("ways: equal methods are two ways", x.ways(3, 0, 1), 2);
        due("ways: by actions", x.ways(3, 0, 2), 1);
        due("ways: a method whose condition holds", x.ways(3, 1, 1), 3);
        due("ways: a method whose condition doesn't hold", x.ways(3, 4, 6), 0);
        due("ways: to nowhere", x.ways(3, 0, 3), 0);
        x.method(2, 0, steps(task(3), task(3)));
        // From 0: to 1 twice and then 3 times back to it, or to 2 and from there not to 1.
        due("ways: along states between", x.ways(2, 0, 1), 6);
        due("ways: conditions are looked at when they come", x.ways(2, 0, 3), 2);
        due("ways: task 4", x.ways(4, 0, 0), BAD);
        due("ways: state 32", x.ways(0, 32, 0), BAD);
        due("ways: end 32", x.ways(0, 0, 32), BAD);
        for (int no : NO_NUMBERS) {
            due("ways: task " + no, x.ways(no, 0, 0), BAD);
            due("ways: state " + no, x.ways(0, no, 0), BAD);
            due("ways: end " + no, x.ways(0, 0, no), BAD);
        }
    }

    private static void mostWays() {
        MethodPlanner x = new MethodPlanner();
        for (int i = 0; i < 4; i++) {
            x.method(3, 0, 0);
        }
        for (int i = 0; i < 2; i++) {
            x.method(2, 0, steps(task(3), task(3)));
        }
        x.method(1, 0, steps(task(2), task(2)));
        x.method(0, 0, steps(task(1), task(1)));
        due("most ways: task 3", x.ways(3, 31, 31), 4);
        due("most ways: task 2", x.ways(2, 31, 31), 32);
        due("most ways: task 1", x.ways(1, 31, 31), 1024);
        due("most ways: task 0", x.ways(0, 31, 31), 1048576);
        due("most ways: all of task 0", x.allWays(0, 31), 1048576);
        due("most ways: to another state", x.ways(0, 31, 30), 0);
    }

    private static void allWays() {
        MethodPlanner x = new MethodPlanner();
        x.action(0, 0, effect(1, 0));
        x.action(1, 0, effect(0, 31));
        x.action(2, 0, effect(31, 0));
        x.method(1, 0, steps(act(0), 0));
        x.method(1, 0, steps(act(1), 0));
        x.method(1, 0, steps(act(2), 0));
        x.method(1, condition(0, 2), steps(act(2), 0));
        due("allWays: all ends", x.allWays(1, 0), 4);
        due("allWays: fewer", x.allWays(1, 2), 3);
        due("allWays: no method", x.allWays(0, 0), 0);
        due("allWays: task 4", x.allWays(4, 0), BAD);
        due("allWays: state 32", x.allWays(1, 32), BAD);
        for (int no : NO_NUMBERS) {
            due("allWays: task " + no, x.allWays(no, 0), BAD);
            due("allWays: state " + no, x.allWays(0, no), BAD);
        }
    }

    private static void nextEnd() {
        MethodPlanner x = new MethodPlanner();
        x.action(0, 0, effect(4, 31));
        x.action(1, 0, effect(31, 31));
        x.method(2, 0, steps(act(0), 0));
        x.method(2, 0, steps(act(1), 0));
        due("nextEnd: first", x.nextEnd(2, 9, 0), 4);
        due("nextEnd: from an end on", x.nextEnd(2, 9, 4), 4);
        due("nextEnd: after it", x.nextEnd(2, 9, 5), 31);
        due("nextEnd: from the last on", x.nextEnd(2, 9, 31), 31);
        x.drop(1);
        due("nextEnd: none from there on", x.nextEnd(2, 9, 5), BAD);
        due("nextEnd: no method", x.nextEnd(1, 9, 0), BAD);
        x.method(0, 0, 0);
        due("nextEnd: end 0", x.nextEnd(0, 0, 0), 0);
        due("nextEnd: task 4", x.nextEnd(4, 0, 0), BAD);
        due("nextEnd: state 32", x.nextEnd(2, 32, 0), BAD);
        due("nextEnd: from 32 on", x.nextEnd(2, 0, 32), BAD);
        for (int no : NO_NUMBERS) {
            due("nextEnd: task " + no, x.nextEnd(no, 0, 0), BAD);
            due("nextEnd: state " + no, x.nextEnd(2, no, 0), BAD);
            due("nextEnd: from " + no + " on", x.nextEnd(2, 0, no), BAD);
        }
    }

    private static void shortest() {
        MethodPlanner x = new MethodPlanner();
        x.action(0, 0, effect(1, 0));
        x.method(3, 0, steps(act(0), act(0)));
        due("shortest: two", x.shortest(3, 0, 1), 2);
        x.method(3, condition(1, 0), steps(0, act(0)));
        due("shortest: still two", x.shortest(3, 0, 1), 2);
        due("shortest: one", x.shortest(3, 1, 1), 1);
        x.method(3, 0, 0);
        due("shortest: the empty plan", x.shortest(3, 1, 1), 0);
        due("shortest: the empty plan ends elsewhere", x.shortest(3, 0, 1), 2);
        due("shortest: none", x.shortest(3, 0, 2), BAD);
        due("shortest: no method", x.shortest(0, 0, 0), BAD);
        due("shortest: task 4", x.shortest(4, 0, 0), BAD);
        due("shortest: state 32", x.shortest(3, 32, 0), BAD);
        due("shortest: end 32", x.shortest(3, 0, 32), BAD);
        for (int no : NO_NUMBERS) {
            due("shortest: task " + no, x.shortest(no, 0, 0), BAD);
            due("shortest: state " + no, x.shortest(3, no, 0), BAD);
            due("shortest: end " + no, x.shortest(3, 0, no), BAD);
        }
    }

    private static void planOrder() {
        MethodPlanner x = new MethodPlanner();
        x.method(1, 0, steps(act(0), act(0)));
        x.method(1, 0, steps(act(5), 0));
        planIs(x, 1, 7, 7, 5);
        x.method(1, 0, steps(0, act(4)));
        planIs(x, 1, 7, 7, 4);
        x.drop(1);
        x.drop(2);
        x.method(1, 0, steps(act(5), act(0)));
        planIs(x, 1, 7, 7, 0, 0);
        x.drop(0);
        x.method(1, 0, steps(act(4), act(5)));
        planIs(x, 1, 7, 7, 4, 5);
        x.method(1, 0, steps(act(4), act(3)));
        planIs(x, 1, 7, 7, 4, 3);
        orderAcrossStatesBetween();
    }

    private static void orderAcrossStatesBetween() {
        MethodPlanner x = new MethodPlanner();
        x.action(0, 0, effect(1, 0));
        x.action(1, 0, effect(2, 0));
        x.action(2, condition(1, 0), effect(4, 3));
        x.action(3, condition(2, 0), effect(4, 3));
        x.method(3, 0, steps(act(1), 0));
        x.method(3, 0, steps(act(0), act(0)));
        x.method(2, 0, steps(act(2), act(2)));
        x.method(2, 0, steps(act(3), 0));
        x.method(1, 0, steps(task(3), task(2)));
        x.action(2, condition(1, 0), effect(5, 2));
        // The ways from 0: 1 3 to 4, and 0 0 2 2 to 5.
        planIs(x, 1, 0, 4, 1, 3);
        planIs(x, 1, 0, 5, 0, 0, 2, 2);
        x.action(3, condition(2, 0), effect(5, 2));
        planIs(x, 1, 0, 5, 1, 3);
        x.method(3, 0, steps(act(0), 0));
        x.method(2, 0, steps(act(2), 0));
        planIs(x, 1, 0, 5, 0, 2);
    }

    private static void planned() {
        MethodPlanner x = new MethodPlanner();
        x.action(5, 0, effect(31, 0));
        x.method(3, 0, steps(act(5), act(2)));
        planIs(x, 3, 0, 31, 5, 2);
        due("planned: last te", x.planned(127, 0, 0), 5);
        due("planned: te 128", x.planned(128, 0, 0), BAD);
        due("planned: state 31", x.planned(127, 31, 1), 2);
        due("planned: state 32", x.planned(127, 32, 0), BAD);
        due("planned: no such end", x.planned(end(3, 30), 0, 0), BAD);
        due("planned: no method", x.planned(end(2, 31), 0, 0), BAD);
        due("planned: number 16", x.planned(127, 0, 16), BAD);
        for (int no : NO_NUMBERS) {
            due("planned: te " + no, x.planned(no, 0, 0), BAD);
            due("planned: state " + no, x.planned(127, no, 0), BAD);
            due("planned: number " + no, x.planned(127, 0, no), BAD);
        }
        x.action(5, 0, effect(0, 31));
        planIs(x, 3, 1, 0, 5, 2);
        due("planned: te 131 is not the next state's", x.planned(131, 0, 0), BAD);
        x.method(0, 0, 0);
        due("planned: of the empty plan", x.planned(end(0, 0), 0, 0), BAD);
    }

    private static void longestPlan() {
        MethodPlanner x = new MethodPlanner();
        // Facts 0 and 1 count the turns of task 3: 0, 1, 2, 3 and then 0 again.
        x.action(0, condition(0, 3), effect(1, 0));
        x.action(1, condition(1, 2), effect(2, 1));
        x.action(2, condition(2, 1), effect(1, 0));
        x.action(3, condition(3, 0), effect(0, 3));
        x.method(3, condition(0, 3), steps(act(5), act(0)));
        x.method(3, condition(1, 2), steps(act(4), act(1)));
        x.method(3, condition(2, 1), steps(act(5), act(2)));
        x.method(3, condition(3, 0), steps(act(4), act(3)));
        x.method(2, 0, steps(task(3), task(3)));
        x.method(1, 0, steps(task(2), task(2)));
        x.method(0, 0, steps(task(1), task(1)));
        planIs(x, 0, 0, 0, 5, 0, 4, 1, 5, 2, 4, 3, 5, 0, 4, 1, 5, 2, 4, 3);
        planIs(x, 1, 2, 2, 5, 2, 4, 3, 5, 0, 4, 1);
        x.method(3, condition(3, 0), steps(act(5), act(3)));
        due("longest plan: ways", x.ways(0, 0, 0), 4);
        planIs(x, 0, 0, 0, 5, 0, 4, 1, 5, 2, 4, 3, 5, 0, 4, 1, 5, 2, 4, 3);
        x.drop(3);
        planIs(x, 0, 0, 0, 5, 0, 4, 1, 5, 2, 5, 3, 5, 0, 4, 1, 5, 2, 5, 3);
        x.method(3, condition(3, 0), steps(act(3), 0));
        due("longest plan: ways of many lengths", x.ways(0, 0, 0), 4);
        planIs(x, 0, 0, 0, 5, 0, 4, 1, 5, 2, 3, 5, 0, 4, 1, 5, 2, 3);
    }

    private static void write() {
        MethodPlanner x = new MethodPlanner();
        writeAll(x, 0, 5, 1, 4, 2, 3, 5, 0);
        due("write: ninth", x.write(0), FULL);
        int[] back = {0, 5, 3, 2, 4, 1, 5, 0};
        for (int a : back) {
            due("write: rubbed", x.rub(), a);
        }
        due("write: 6", x.write(6), BAD);
        for (int no : NO_NUMBERS) {
            due("write: " + no, x.write(no), BAD);
        }
        due("write: wrong calls wrote nothing", x.rub(), BAD);
        due("write: again", x.write(3), 1);
    }

    private static void rub() {
        MethodPlanner x = new MethodPlanner();
        due("rub: empty", x.rub(), BAD);
        due("rub: write after it", x.write(4), 1);
        due("rub: write more", x.write(2), 2);
        due("rub: last", x.rub(), 2);
        due("rub: write in its place", x.write(1), 2);
        due("rub: last again", x.rub(), 1);
        due("rub: first", x.rub(), 4);
        due("rub: empty again", x.rub(), BAD);
        due("rub: and again", x.rub(), BAD);
        due("rub: nothing changed", x.write(0), 1);
    }

    private static void accounts() {
        MethodPlanner x = new MethodPlanner();
        x.action(0, condition(0, 1), effect(1, 0));
        x.action(1, condition(1, 0), effect(2, 1));
        due("accounts: no method", x.accounts(0, 0), false);
        x.method(3, condition(0, 4), steps(act(0), act(1)));
        due("accounts: the empty list", x.accounts(3, 0), false);
        writeAll(x, 0);
        due("accounts: the beginning of a plan", x.accounts(3, 0), false);
        x.write(1);
        due("accounts: a plan", x.accounts(3, 0), true);
        due("accounts: an action can't be done", x.accounts(3, 1), false);
        due("accounts: the method's condition doesn't hold", x.accounts(3, 4), false);
        due("accounts: in another state", x.accounts(3, 8), true);
        due("accounts: of another task", x.accounts(2, 0), false);
        x.method(2, 0, steps(task(3), task(3)));
        due("accounts: half a plan", x.accounts(2, 0), false);
        x.write(0);
        x.write(1);
        due("accounts: two tasks", x.accounts(2, 0), true);
        due("accounts: more than a plan", x.accounts(3, 0), false);
        x.action(1, condition(1, 0), effect(4, 1));
        due("accounts: the condition doesn't hold when it comes", x.accounts(2, 0), false);
        due("accounts: task 4", x.accounts(4, 0), false);
        due("accounts: state 32", x.accounts(3, 32), false);
        rubAll(x);
        x.method(1, condition(0, 2), 0);
        due("accounts: the empty plan", x.accounts(1, 0), true);
        due("accounts: no empty plan", x.accounts(1, 2), false);
        for (int no : NO_NUMBERS) {
            due("accounts: task " + no, x.accounts(no, 0), false);
            due("accounts: state " + no, x.accounts(1, no), false);
        }
        x.drop(2);
        due("accounts: dropped", x.accounts(1, 0), false);
    }

    private static void accountsWithWaysOfManyLengths() {
        MethodPlanner x = new MethodPlanner();
        x.method(3, 0, steps(act(0), 0));
        x.method(3, 0, steps(0, act(1)));
        x.method(3, 0, steps(act(0), act(0)));
        x.method(2, 0, steps(task(3), task(3)));
        x.method(1, 0, steps(task(2), task(2)));
        x.method(0, 0, steps(task(1), task(1)));
        writeAll(x, 0, 0, 0);
        due("lengths: three of two", x.accounts(2, 0), true);
        due("lengths: too few", x.accounts(1, 0), false);
        x.write(1);
        due("lengths: four of two end with 1", x.accounts(2, 0), false);
        due("lengths: four of four", x.accounts(1, 0), true);
        writeAllOn(x, 1, 0, 0, 1);
        due("lengths: eight of eight", x.accounts(0, 0), true);
        due("lengths: eight of four", x.accounts(1, 0), false);
        rubAll(x);
        writeAll(x, 0, 0, 1, 0, 0, 1);
        due("lengths: six of four", x.accounts(1, 5), true);
        due("lengths: six of eight", x.accounts(0, 5), false);
        x.write(2);
        due("lengths: an action of no plan", x.accounts(1, 5), false);
    }

    private static void writeAllOn(MethodPlanner x, int... actions) {
        for (int a : actions) {
            x.write(a);
        }
    }

    private static void after() {
        MethodPlanner x = new MethodPlanner();
        for (int s = 0; s < 32; s++) {
            due("after: the empty list", x.after(s), s);
        }
        x.action(0, condition(0, 16), effect(1, 2));
        x.action(1, condition(1, 0), effect(16, 0));
        writeAll(x, 0, 1);
        due("after: both", x.after(2), 17);
        due("after: the first can't be done", x.after(16), BAD);
        x.write(0);
        due("after: the last can't be done", x.after(2), BAD);
        x.rub();
        x.rub();
        x.rub();
        x.write(1);
        due("after: the only one can't be done", x.after(2), BAD);
        due("after: it can be done", x.after(3), 19);
        due("after: state 32", x.after(32), BAD);
        due("after: state 33", x.after(33), BAD);
        for (int no : NO_NUMBERS) {
            due("after: state " + no, x.after(no), BAD);
        }
        due("after: the list stays", x.write(0), 2);
    }

    private static void doable() {
        MethodPlanner x = new MethodPlanner();
        x.action(0, condition(1, 0), 0);
        x.method(3, condition(0, 4), 0);
        x.method(2, 0, steps(act(0), task(3)));
        x.method(1, condition(2, 0), 0);
        due("doable: only 3", x.doable(0), 8);
        due("doable: 2 and 3", x.doable(1), 12);
        due("doable: 1 to 3", x.doable(3), 14);
        due("doable: 1", x.doable(7), 2);
        due("doable: none", x.doable(4), 0);
        x.method(0, 0, steps(task(1), task(2)));
        due("doable: all", x.doable(3), 15);
        due("doable: 0 needs both", x.doable(1), 12);
        due("doable: state 31", x.doable(31), 2);
        due("doable: state 32", x.doable(32), BAD);
        for (int no : NO_NUMBERS) {
            due("doable: state " + no, x.doable(no), BAD);
        }
    }

    private static void useless() {
        MethodPlanner x = new MethodPlanner();
        due("useless: none", x.useless(0), false);
        x.action(0, condition(1, 1), 0);
        x.action(1, condition(0, 31), effect(1, 0));
        due("useless: needs what it avoids", x.method(3, condition(4, 4), 0), 0);
        due("useless: an action that can't be done", x.method(3, 0, steps(act(0), 0)), 1);
        due("useless: one that can't be done twice", x.method(3, 0, steps(act(1), act(1))), 2);
        due("useless: in one state alone", x.method(3, 0, steps(act(1), 0)), 3);
        due("useless: a task without methods", x.method(0, 0, steps(0, task(1))), 4);
        due("useless: equal to another", x.method(3, 0, steps(act(1), 0)), 5);
        due("useless: a task that ends where it can't go on", x.method(2, 0, steps(task(3), task(3))), 6);
        due("useless: in the last state alone", x.method(2, condition(31, 0), 0), 7);
        boolean[] want = {true, true, true, false, true, false, true, false};
        for (int m = 0; m < 8; m++) {
            due("useless: " + m, x.useless(m), want[m]);
        }
        due("useless: nothing changed", x.methods(), 255);
        due("useless: no way changed", x.allWays(3, 0), 2);
        x.drop(4);
        due("useless: dropped", x.useless(4), false);
        due("useless: 8", x.useless(8), false);
        due("useless: 32", x.useless(32), false);
        for (int no : NO_NUMBERS) {
            due("useless: " + no, x.useless(no), false);
        }
        x.action(0, 0, 0);
        due("useless: no more", x.useless(1), false);
        due("useless: nor what has it as a step", x.useless(6), false);
    }

    private static void orderAndLimits() {
        MethodPlanner x = new MethodPlanner();
        x.action(0, 0, effect(1, 0));
        writeAll(x, 0, 0, 0, 0, 0, 0, 0, 4);
        due("limits: BAD before FULL", x.write(6), BAD);
        due("limits: BAD before FULL, below", x.write(-1), BAD);
        due("limits: FULL", x.write(5), FULL);
        due("limits: FULL again", x.write(0), FULL);
        due("limits: after", x.after(0), 1);
        due("limits: the last is the old one", x.rub(), 4);
        due("limits: BAD with room", x.write(6), BAD);
        due("limits: nothing written", x.write(3), 8);
        due("limits: the last is the new one", x.rub(), 3);
    }
}
