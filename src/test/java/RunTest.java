/** Promise 6: run. What the steps do: StepTest and NeedsTest. */
public final class RunTest {
    /** Programs that end in these states, or are not started, or are still running behind two steps. */
    private static final String[] ENDS = {"(! 1)", "(! (! 1))", "(! 1)", "(+ 'a 1)", "((\\ () (1 2 3)))"};

    public static void main(String[] args) {
        numberOfSteps();
        everyNumber();
        wrongNumbers();
        wrongNumbersInEachState();
        whatIsNotRunning();
        theLastStepCounts();
        Session.end();
    }

    /** "Up to n steps, as long as it is running: how many". */
    private static void numberOfSteps() {
        Session s = new Session(250);
        s.load("(+ 1 (* 2 3))");
        Session.due("run before start", s.run(200), 0);
        s.machine.start();
        Session.due("run(0)", s.run(0), 0);
        Session.due("run(1)", s.run(1), 1);
        Session.due("run(4)", s.run(4), 4);
        Session.due("state", s.machine.state(), 1);
        Session.due("run(200)", s.run(200), 1);
        Session.due("state", s.machine.state(), 2);
        Session.due("run behind the end", s.run(200), 0);
        s.load("(; (f 25 0) (f (\\ (n a) (? n (f (- n 1) (+ n a)) a))))");
        s.machine.start();
        Session.due("run(200)", s.run(200), 200);
        Session.due("run(99)", s.run(99), 99);
        Session.due("steps", s.machine.count(4), 299);
    }

    /** From 0 to 200, of a program that takes more steps than that. */
    private static void everyNumber() {
        for (int n = 0; n <= 200; n++) {
            Session s = new Session(250);
            s.load("(; (f 25 0) (f (\\ (n a) (? n (f (- n 1) (+ n a)) a))))");
            s.machine.start();
            Session.due("run(" + n + ")", s.run(n), n);
            Session.due("steps behind run(" + n + ")", s.machine.count(4), n);
        }
    }

    /** "IllegalArgumentException if n is not 0 .. 200". */
    private static void wrongNumbers() {
        Session s = new Session(60);
        int[] wrong = {-1, 201, 1000, Integer.MIN_VALUE, Integer.MAX_VALUE};
        for (int n : wrong) {
            Session.due("run(" + n + ") without a program", s.run(n), Session.BAD_ARGUMENT);
        }
        s.load("(+ 1 2)");
        s.machine.start();
        for (int n : wrong) {
            Session.due("run(" + n + ")", s.run(n), Session.BAD_ARGUMENT);
        }
        Session.due("steps", s.machine.count(4), 0);
        Session.due("run(200)", s.run(200), 4);
    }

    /** The same where no step would be taken; and nothing changes. */
    private static void wrongNumbersInEachState() {
        for (int state = 0; state < ENDS.length; state++) {
            Session s = inState(state);
            int next = s.machine.next();
            String shown = s.shown();
            int steps = s.machine.count(4);
            Session.due("run(-1) in state " + state, s.run(-1), Session.BAD_ARGUMENT);
            Session.due("run(201) in state " + state, s.run(201), Session.BAD_ARGUMENT);
            Session.due("state behind run", s.machine.state(), state);
            Session.due("next behind run in state " + state, s.machine.next(), next);
            Session.due("steps behind run in state " + state, s.machine.count(4), steps);
            Session.due("shown behind run in state " + state, s.shown(), shown);
            Session.due("position behind run in state " + state, s.machine.position(), -1);
        }
    }

    private static void whatIsNotRunning() {
        for (int state = 0; state < ENDS.length; state++) {
            Session s = inState(state);
            int steps = s.machine.count(4);
            Session.due("run(0) in state " + state, s.run(0), 0);
            int want = state == 1 ? 1 : 0;
            Session.due("run(1) in state " + state, s.run(1), want);
            Session.due("steps behind run(1) in state " + state, s.machine.count(4), steps + want);
            Session.due("run(200) in state " + state, s.run(200), want);
        }
    }

    private static Session inState(int state) {
        Session s = new Session(20);
        s.load(ENDS[state]);
        if (state != 0) {
            s.machine.start();
            s.run(state == 1 ? 2 : 200);
        }
        Session.due("state of " + ENDS[state], s.machine.state(), state);
        return s;
    }

    /** "One that ends it in state 2, 3 or 4 counts". */
    private static void theLastStepCounts() {
        int[] steps = {3, 3, 2};
        for (int state = 2; state < ENDS.length; state++) {
            int all = steps[state - 2];
            for (int n = 0; n <= 4; n++) {
                Session s = new Session(20);
                s.load(ENDS[state]);
                s.machine.start();
                Session.due("run(" + n + ") of " + ENDS[state], s.run(n), Math.min(n, all));
                Session.due("steps of it", s.machine.count(4), Math.min(n, all));
                Session.due("state behind it", s.machine.state(), n < all ? 1 : state);
                Session.due("run(200) behind it", s.run(200), Math.max(all - n, 0));
                Session.due("steps of all", s.machine.count(4), all);
            }
        }
    }
}
