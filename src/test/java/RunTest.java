/** Promise 6: run, and the steps that it takes. */
public final class RunTest {
    /** Programs that end in these states, or are not started, or are still running behind two steps. */
    private static final String[] ENDS = {"(! 1)", "(! (! 1))", "(! 1)", "(+ 'a 1)", "((\\ () (1 2 3)))"};

    public static void main(String[] args) {
        numberOfSteps();
        wrongNumbers();
        wrongNumbersInEachState();
        whatIsNotRunning();
        theLastStepCounts();
        arithmetic();
        intsWrap();
        pairs();
        comparisons();
        whatIsTakenOffS();
        choices();
        functions();
        recursion();
        wrongValues();
        outOfCells();
        needsBeforeWrongs();
        Session.end();
    }

    /** "Up to n steps, as long as it is running: how many". */
    private static void numberOfSteps() {
        Session s = new Session(250);
        s.load("(+ 1 (* 2 3))");
        Session.due("run before start", s.run(200), 0);
        s.machine.start();
        Session.due("run(0)", s.run(0), 0);
        Session.due("run(1)", s.run(1), 1);
        Session.due("run(4)", s.run(4), 4);
        Session.due("state", s.machine.state(), 1);
        Session.due("run(200)", s.run(200), 1);
        Session.due("state", s.machine.state(), 2);
        Session.due("run behind the end", s.run(200), 0);
        s.load("(; (f 25 0) (f (\\ (n a) (? n (f (- n 1) (+ n a)) a))))");
        s.machine.start();
        Session.due("run(200)", s.run(200), 200);
        Session.due("run(99)", s.run(99), 99);
        Session.due("steps", s.machine.count(4), 299);
    }

    /** "IllegalArgumentException if n is not 0 .. 200". */
    private static void wrongNumbers() {
        Session s = new Session(60);
        int[] wrong = {-1, 201, 1000, Integer.MIN_VALUE, Integer.MAX_VALUE};
        for (int n : wrong) {
            Session.due("run(" + n + ") without a program", s.run(n), Session.BAD_ARGUMENT);
        }
        s.load("(+ 1 2)");
        s.machine.start();
        for (int n : wrong) {
            Session.due("run(" + n + ")", s.run(n), Session.BAD_ARGUMENT);
        }
        Session.due("steps", s.machine.count(4), 0);
        Session.due("run(200)", s.run(200), 4);
    }

    /** The same where no step would be taken; and nothing changes. */
    private static void wrongNumbersInEachState() {
        for (int state = 0; state < ENDS.length; state++) {
            Session s = inState(state);
            int next = s.machine.next();
            String shown = s.shown();
            int steps = s.machine.count(4);
            Session.due("run(-1) in state " + state, s.run(-1), Session.BAD_ARGUMENT);
            Session.due("run(201) in state " + state, s.run(201), Session.BAD_ARGUMENT);
            Session.due("state behind run", s.machine.state(), state);
            Session.due("next behind run in state " + state, s.machine.next(), next);
            Session.due("steps behind run in state " + state, s.machine.count(4), steps);
            Session.due("shown behind run in state " + state, s.shown(), shown);
            Session.due("position behind run in state " + state, s.machine.position(), -1);
        }
    }

    private static void whatIsNotRunning() {
        for (int state = 0; state < ENDS.length; state++) {
            Session s = inState(state);
            int steps = s.machine.count(4);
            Session.due("run(0) in state " + state, s.run(0), 0);
            int want = state == 1 ? 1 : 0;
            Session.due("run(1) in state " + state, s.run(1), want);
            Session.due("steps behind run(1) in state " + state, s.machine.count(4), steps + want);
            Session.due("run(200) in state " + state, s.run(200), want);
        }
    }

    private static Session inState(int state) {
        Session s = new Session(20);
        s.load(ENDS[state]);
        if (state != 0) {
            s.machine.start();
            s.run(state == 1 ? 2 : 200);
        }
        Session.due("state of " + ENDS[state], s.machine.state(), state);
        return s;
    }

    /** "One that ends it in state 2, 3 or 4 counts". */
    private static void theLastStepCounts() {
        int[] steps = {3, 3, 2};
        for (int state = 2; state < ENDS.length; state++) {
            int all = steps[state - 2];
            for (int n = 0; n <= 4; n++) {
                Session s = new Session(20);
                s.load(ENDS[state]);
                s.machine.start();
                Session.due("run(" + n + ") of " + ENDS[state], s.run(n), Math.min(n, all));
                Session.due("steps of it", s.machine.count(4), Math.min(n, all));
                Session.due("state behind it", s.machine.state(), n < all ? 1 : state);
                Session.due("run(200) behind it", s.run(200), Math.max(all - n, 0));
                Session.due("steps of all", s.machine.count(4), all);
            }
        }
    }

    /** "Ints wrap". */
    private static void intsWrap() {
        // x is 2 to the 30th, so that (+ x x) is the least int and (- (+ x x) 1) the largest.
        wraps("(+ x x)", "-2147483648");
        wraps("(- (+ x x) 1)", "2147483647");
        wraps("(+ (- (+ x x) 1) 1)", "-2147483648");
        wraps("(- 0 (+ x x))", "-2147483648");
        wraps("(- x (- 0 x))", "-2147483648");
        wraps("(* x 2)", "-2147483648");
        wraps("(* x 3)", "-1073741824");
        wraps("(* x 4)", "0");
        wraps("(* x x)", "0");
        wraps("(* (+ x x) -1)", "-2147483648");
        wraps("(* (- (+ x x) 1) 2)", "-2");
        wraps("(* (- (+ x x) 1) (- (+ x x) 1))", "1");
        wraps("(< (+ x x) 1)", "1");
        wraps("(< 1 (+ x x))", "0");
        wraps("(< (+ x x) (- (+ x x) 1))", "1");
        wraps("(< (- (+ x x) 1) (+ x x))", "0");
        wraps("(= (+ x x) (* -2 x))", "1");
        wraps("(= (* x 4) 0)", "1");
        wraps("(? (* x 4) 1 2)", "2");
        wraps("(? (+ x x) 1 2)", "1");
    }

    private static void wraps(String body, String shown) {
        new Session(120).results("(: " + body + " (x (* 8192 (* 8192 16))))", shown);
    }

    private static void arithmetic() {
        Session s = new Session(120);
        s.results("(+ 9999 -1)", "9998");
        s.results("(- 3 10)", "-7");
        s.results("(* -12 12)", "-144");
        s.results("(* (* 9999 9999) (* 9999 9999))", "1089432001");
        s.results("(: (+ (* x x) (* x x)) (x (* 256 128)))", "-2147483648");
        s.results("(: (- (+ (* x x) (* x x)) 1) (x (* 256 128)))", "2147483647");
        s.results("(: (* -1 (+ (* x x) (* x x))) (x (* 256 128)))", "-2147483648");
        s.results("(+ 0012 -0)", "12");
    }

    private static void pairs() {
        Session s = new Session(60);
        s.results("(^ (. 1 2))", "1");
        s.results("(_ (. 1 2))", "2");
        s.results("(^ '(a b))", "a");
        s.results("(_ '(a b))", "(b)");
        s.results("(_ '(a))", "()");
        s.results("(! '(a))", "0");
        s.results("(! (. 1 2))", "0");
        s.results("(! '())", "1");
        s.results("(! 0)", "1");
        s.results("(! 'a)", "1");
        s.results("(! (\\ (x) x))", "1");
    }

    private static void comparisons() {
        Session s = new Session(60);
        s.results("(< 1 2)", "1");
        s.results("(< 2 2)", "0");
        s.results("(< 3 2)", "0");
        s.results("(< -3 2)", "1");
        s.results("(= 2 2)", "1");
        s.results("(= 2 3)", "0");
        s.results("(= 'a 'a)", "1");
        s.results("(= 'a 'b)", "0");
        s.results("(= 'a 97)", "0");
        s.results("(= 0 '())", "0");
        s.results("(= '() '())", "1");
        s.results("(= '(1) '(1))", "0");
        s.results("(= '(1) '())", "0");
        s.results("(: (= x x) (x '(1)))", "0");
        s.results("(: (= x x) (x (\\ () 1)))", "0");
        s.results("(: (= x x) (x 'q))", "1");
    }

    /** Each instruction takes as many values off S as the document tells, and leaves those below. */
    private static void whatIsTakenOffS() {
        leavesBelow("1", 1, "1");
        leavesBelow("(^ '(5 6))", 2, "5");
        leavesBelow("(_ '(5 6))", 2, "(6)");
        leavesBelow("(! 5)", 2, "1");
        leavesBelow("(. 5 6)", 3, "(5 . 6)");
        leavesBelow("(= 5 6)", 3, "0");
        leavesBelow("(+ 5 6)", 3, "11");
        leavesBelow("(- 5 6)", 3, "-1");
        leavesBelow("(* 5 6)", 3, "30");
        leavesBelow("(< 5 6)", 3, "1");
        leavesBelow("(\\ () 1)", 1, "#");
        leavesBelow("(? 5 6 7)", 4, "6");
        leavesBelow("((\\ (x) x) 5)", 7, "5");
        leavesBelow("(: x (x 5))", 7, "5");
        leavesBelow("(; 5 (f (\\ () 6)))", 8, "5");
    }

    /** Runs an expression that takes so many steps, with one value below it on S and with three. */
    private static void leavesBelow(String expression, int steps, String shown) {
        Session s = new Session(120);
        s.load("(. " + expression + " (. 'b 'c))");
        s.machine.start();
        s.run(3 + steps);
        Session.due("values on S behind " + expression, s.machine.count(5), 2);
        s.finish();
        Session.due("result with " + expression, s.shown(), "(" + shown + " b . c)");
        Session t = new Session(120);
        t.load("(+ 1 (* 2 (^ (. " + expression + " 3))))");
        t.machine.start();
        t.run(3 + steps);
        Session.due("values on S behind " + expression, t.machine.count(5), 4);
        t.run(2);
        Session.due("values on S with a pair made and taken apart", t.machine.count(5), 3);
    }

    private static void choices() {
        Session s = new Session(60);
        s.results("(? 1 2 3)", "2");
        s.results("(? -1 2 3)", "2");
        s.results("(? 0 2 3)", "3");
        s.results("(+ (? 0 (^ 1) 3) (? 1 4 (^ 1)))", "7");
    }

    private static void functions() {
        Session s = new Session(120);
        s.results("((\\ () 7))", "7");
        s.results("((\\ () 7) 1 2 3)", "7");
        s.results("((\\ (x y z) (- x (- y z))) 1 2 3)", "2");
        s.results("((\\ (x) (x (x 3))) (\\ (n) (* n n)))", "81");
        s.results("(((\\ (x) (\\ (y) (- x y))) 9) 4)", "5");
        s.results("(: (f 4) (f ((\\ (x) (\\ (y) (- x y))) 9)) (x 1))", "5");
        s.results("(+ ((\\ (x) (* x x)) 3) ((\\ (x) (* x x)) 4))", "25");
        s.results("(. 1 (: 2 (x 3)))", "(1 . 2)");
    }

    private static void recursion() {
        Session s = new Session(250);
        s.results("(; (f 6) (f (\\ (n) (? n (* n (f (- n 1))) 1))))", "720");
        s.results("(; (e 7) (e (\\ (n) (? n (o (- n 1)) 'y))) (o (\\ (n) (? n (e (- n 1)) 'n))))", "n");
        s.results("(; (r '(1 2 3) '()) (r (\\ (l a) (? (! l) a (r (_ l) (. (^ l) a))))))", "(3 2 1)");
        s.results("(: (. x (; (f) (f (\\ () x)))) (x 4))", "(4 . 4)");
        s.results("(. (; (f 1) (f (\\ (x) x))) (; (g 2) (g (\\ (x) x))))", "(1 . 2)");
        s.results("((\\ (x) (. (; (f 1) (f (\\ (y) y))) x)) 9)", "(1 . 9)");
    }

    /** "What must be and is not, and a place in 2 that the list has not". */
    private static void wrongValues() {
        Session s = new Session(120);
        s.ends("(^ 5)", 3, 2);
        s.ends("(_ 'a)", 3, 2);
        s.ends("(^ '())", 3, 2);
        s.ends("(_ (\\ () 1))", 3, 2);
        s.ends("(5 1)", 3, 5);
        s.ends("('a)", 3, 3);
        s.ends("('(1))", 3, 3);
        s.ends("((. 1 2))", 3, 5);
        s.ends("(? 'a 1 2)", 3, 2);
        s.ends("(? '() 1 2)", 3, 2);
        s.ends("(? (\\ () 1) 1 2)", 3, 2);
        String[] signs = {"+", "-", "*", "<"};
        for (String sign : signs) {
            s.ends("(" + sign + " 'a 1)", 3, 3);
            s.ends("(" + sign + " 1 'a)", 3, 3);
            s.ends("(" + sign + " '() 1)", 3, 3);
            s.ends("(" + sign + " 1 '(1))", 3, 3);
        }
        s.ends("((\\ (x y) y) 1)", 3, 6);
        s.ends("((\\ (x) x))", 3, 4);
        s.ends("((\\ (x y z) z) 1 2)", 3, 8);
        s.ends("((\\ (x) ((\\ (y) x) 1)))", 3, 9);
        nothingOfTheStepIsDone();
    }

    /** "Nothing of that step is done". */
    private static void nothingOfTheStepIsDone() {
        Session s = new Session(60);
        s.ends("(+ 1 (+ 2 'a))", 3, 4);
        s.counts("behind a wrong sum", 12, 12, 0, 0, 4, 3, 0);
        s.ends("(. 1 (2 3))", 3, 5);
        s.counts("behind a wrong call", 17, 15, 0, 0, 5, 2, 0);
        s.ends("(. 1 (? 'a 1 2))", 3, 2);
        s.counts("behind a wrong choice", 16, 16, 0, 0, 2, 1, 0);
        s.ends("(. (^ 'a) 1)", 3, 3);
        s.counts("behind a wrong head", 9, 9, 0, 0, 3, 2, 0);
    }

    /** "If there are still fewer, the machine is OUT of cells (state 4)". */
    private static void outOfCells() {
        Session s = new Session(60);
        s.ends("(; (f 9) (f (\\ (n) (? (< n 1) 1 (* n (f (- n 1)))))))", 4, 18);
        s.counts("out of cells", 60, 60, 6, 12, 18, 2, 7);
        Session.due("run out of cells", s.run(9), 0);
        Session t = new Session(250);
        t.load("(; (f) (f (\\ () (f))))");
        t.machine.start();
        t.finish();
        Session.due("state of what never ends", t.machine.state(), 4);
        Session u = new Session(20);
        u.ends("'(1 1 1 1 1 1 1 1 1 1 1 1 1 1 1 1 1)", 4, 1);
        u.counts("without a free cell", 20, 20, 1, 0, 1, 0, 0);
        u.ends("'(1 1 1 1 1 1 1 1 1 1 1 1 1 1 1 1)", 2, 2);
        u.counts("with one free cell", 20, 20, 0, 0, 2, 1, 0);
    }

    /** "Nothing of that step is done (but what was collected)". */
    private static void needsBeforeWrongs() {
        // The pair that ^ would need is not there, so that its wrong value is not looked at.
        Session s = new Session(20);
        s.ends("(. (^ 'a) '(1 1 1 1 1 1 1 1 1 1 1))", 4, 3);
        s.counts("with all cells held", 20, 20, 1, 0, 3, 2, 0);
        s.ends("(. (^ 'a) '(1 1 1 1 1 1 1 1 1 1))", 3, 3);
        s.counts("with one free cell", 19, 19, 0, 0, 3, 2, 0);
        s.ends("(+ (^ '(a 1 1 1 1 1 1 1)) (! 1))", 3, 5);
        s.counts("behind what was collected", 18, 18, 1, 2, 5, 2, 0);
    }
}
