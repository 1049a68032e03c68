/** Terms, REGISTERS: what a step does to S, E, C and D, for each instruction. */
public final class StepTest {
    public static void main(String[] args) {
        atTheBeginning();
        takenFromC();
        constants();
        variables();
        placesThatTheListHasNot();
        functions();
        calls();
        returns();
        frames();
        callsInFrames();
        recursion();
        choices();
        rejoining();
        headsAndTails();
        noPairs();
        newPairs();
        same();
        sums();
        done();
        whatIsTakenOffS();
        wrongValues();
        nothingOfTheStepIsDone();
        intsWrap();
        states();
        Session.end();
    }

    /** A machine of 250 cells that has been started, so that nothing need be collected. */
    private static Session started(String text) {
        Session s = new Session(250);
        s.load(text);
        Session.due("start of " + text, s.machine.start(), true);
        return s;
    }

    private static void ended(Session s, String shown) {
        s.finish();
        Session.due("state at the end", s.machine.state(), 2);
        Session.due("result", s.shown(), shown);
    }

    /** "At the beginning C is the code, the others are NIL, what is used is the code." */
    private static void atTheBeginning() {
        Session s = started("(; (f 3) (f (\\ (n) (? n (f (- n 1)) '(a b)))))");
        int code = s.machine.count(0);
        for (int steps = 0; steps < 40; steps += 3) {
            s.run(steps);
            s.machine.start();
            Session.due("the first instruction", s.machine.next(), 6);
            s.counts("at the beginning", code, code, 0, 0, 0, 0, 0);
        }
        // E is NIL: so there is one frame behind 6, and one list less is reached when it is left.
        s.run(1);
        Session.due("cells that are reached behind 6", s.machine.count(1), code + 1);
        ended(s, "(a b)");
    }

    /** "A STEP takes an instruction from C (with what belongs to it, of which C becomes the tail)." */
    private static void takenFromC() {
        Session s = new Session(250);
        s.traces("(+ 1 2)", "1 1 15 19");
        s.traces("(+ '15 '(16 17))", "1 1 15");
        s.traces("(: x (x 17))", "1 1 13 3 4 2 5 19");
        s.traces("(. (? 1 2 3) (? 0 2 3))", "1 8 1 9 1 8 1 9 13 19");
        s.traces("(. (\\ () 1) (\\ () 2))", "3 3 13 19");
        s.traces("(; (. f g) (f (\\ () 1)) (g (\\ () 2)))", "6 1 3 13 3 13 3 7 2 2 13 5 19");
    }

    /** "1 v: S = v : S." */
    private static void constants() {
        Session s = started("(. '(a) (. 'b (. -3 '())))");
        s.steps(1, 1, 1, 0);
        s.steps(1, 1, 2, 0);
        s.run(1);
        s.steps(1, 1, 2, 0);
        s.run(1);
        s.steps(1, 1, 2, 0);
        ended(s, "((a) b -3)");
    }

    /** "2 n: S = v : S, where v is the value at place n mod 16 in the list that is at place n / 16 of the list E." */
    private static void variables() {
        String text = "(: (: (: Q (g 7) (h '(8)) (i 9)) (d 4) (e 'k) (f 6)) (a '()) (b 2) (c 3))";
        String[] shown = {"()", "2", "3", "4", "k", "6", "7", "(8)", "9"};
        for (int k = 0; k < shown.length; k++) {
            Session s = started(text.replace('Q', (char) ('a' + k)));
            for (int step = 0; step < 100 && s.machine.next() != 2; step++) {
                s.run(1);
            }
            s.steps(2, 1, 1, 9);
            ended(s, shown[k]);
        }
    }

    /** "A place in 2 that the list has not: the machine is WRONG". */
    private static void placesThatTheListHasNot() {
        Session s = new Session(120);
        s.ends("((\\ (x) x))", 3, 4);
        s.ends("((\\ (x y) y) 1)", 3, 6);
        s.ends("((\\ (x y z) z) 1 2)", 3, 8);
        s.ends("((\\ (x y z) z) 1)", 3, 6);
        s.ends("((\\ (x y z) z))", 3, 4);
        s.ends("((\\ (x y z) x))", 3, 4);
        s.ends("((\\ (x) ((\\ (y) x) 1)))", 3, 9);
        s.ends("((\\ (x y) ((\\ (z) y) 1)) 2)", 3, 11);
        s.results("((\\ (x y z) x) 1)", "1");
        s.results("((\\ (x y z) y) 1 2)", "2");
        s.results("((\\ (x) x) 1 2 3)", "1");
        Session t = new Session(120);
        t.ends("(. 1 ((\\ (x y) y) '(2)))", 3, 6);
        t.counts("behind a place that is not there", 26, 21, 0, 0, 6, 0, 3);
    }

    /** "3 c: S = f : S, f a new function with head c and tail E." */
    private static void functions() {
        Session s = started("(. (\\ () 1) (\\ (x) x))");
        s.steps(3, 2, 1, 0);
        s.steps(3, 2, 2, 0);
        ended(s, "(# . #)");
        // Its tail is what E is where it is made, wherever it is called.
        Session t = new Session(120);
        t.results("(: (f 4) (f ((\\ (x) (\\ (y) (- x y))) 9)) (x 1))", "5");
        t.results("(((\\ (x) (\\ (y) (- x y))) 9) 4)", "5");
        t.results("(: (: (f) (x 2)) (f (: (\\ () x) (x 1))))", "1");
        t.results("(: (. (f) (g)) (f ((\\ (x) (\\ () x)) 1)) (g ((\\ (x) (\\ () x)) 2)))", "(1 . 2)");
    }

    /** "4: f and v are taken off S; f must be a function; D = S : (E : (C : D)), S = NIL, E = v : its tail, C = its head." */
    private static void calls() {
        Session s = started("(. ((\\ (x) (. x ((\\ () 2)))) 1) 3)");
        s.steps(1, 1, 1, 0);
        s.steps(1, 1, 2, 0);
        s.steps(1, 1, 3, 0);
        s.steps(13, 2, 2, 0);
        s.steps(3, 2, 3, 0);
        s.steps(4, 4, 0, 3);
        s.steps(1, 1, 1, 3);
        s.steps(3, 2, 2, 3);
        s.steps(4, 4, 0, 6);
        s.steps(1, 1, 1, 6);
        ended(s, "((1 . 2) . 3)");
        Session t = new Session(120);
        t.results("((\\ () 7))", "7");
        t.results("((\\ () 7) 1 2 3)", "7");
        t.results("((\\ (x y z) (- x (- y z))) 1 2 3)", "2");
        t.results("((\\ (x) (x (x 3))) (\\ (n) (* n n)))", "81");
    }

    /** "5: x is S's head; S, E, C are taken off D; S = x : S." */
    private static void returns() {
        Session s = started("(. (: (: x (x 1)) (y 2)) (. 3 4))");
        s.run(3);
        Session.due("values on S before the calls", s.machine.count(5), 1);
        for (int step = 0; step < 100 && s.machine.next() != 5; step++) {
            s.run(1);
        }
        Session.due("values on D in two calls", s.machine.count(6), 6);
        s.steps(5, 1, 1, 3);
        s.steps(5, 1, 2, 0);
        s.steps(13, 2, 1, 0);
        ended(s, "(1 3 . 4)");
        // E is again what it was.
        Session t = new Session(120);
        t.results("((\\ (x) (. (: x (x 1)) x)) 2)", "(1 . 2)");
        t.results("((\\ (x) (. ((\\ (y) (. x y)) 3) x)) 2)", "((2 . 3) . 2)");
        t.results("(+ ((\\ (x) (* x x)) 3) ((\\ (x) (* x x)) 4))", "25");
    }

    /** "6: E = NIL : E." */
    private static void frames() {
        Session s = started("(: (; (. x (f)) (f (\\ () x))) (x 5))");
        for (int step = 0; step < 100 && s.machine.next() != 6; step++) {
            s.run(1);
        }
        int reached = s.machine.count(1);
        s.steps(6, 1, 0, 3);
        Session.due("cells that are reached behind 6", s.machine.count(1), reached + 1);
        ended(s, "(5 . 5)");
    }

    /**
     * "7: f and v are taken off S; f must be a function; D = S : (E's tail : (C : D)), S = NIL, E = f's tail, the head
     * of which becomes v, C = f's head."
     */
    private static void callsInFrames() {
        Session s = started("(. (; (f 1) (f (\\ (x) x))) 2)");
        s.steps(1, 1, 1, 0);
        s.steps(6, 1, 1, 0);
        s.steps(1, 1, 2, 0);
        s.steps(3, 2, 3, 0);
        s.steps(13, 2, 2, 0);
        s.steps(3, 2, 3, 0);
        s.steps(7, 3, 0, 3);
        s.steps(1, 1, 1, 3);
        ended(s, "(1 . 2)");
        // What is saved is E without the frame of the letters, and the frame is there for the functions bound.
        Session t = new Session(250);
        t.results("((\\ (x) (. (; (f 1) (f (\\ (y) y))) x)) 9)", "(1 . 9)");
        t.results("(: (. x (; (f) (f (\\ () x)))) (x 4))", "(4 . 4)");
        t.results("(. (; (f 1) (f (\\ (x) x))) (; (g 2) (g (\\ (x) x))))", "(1 . 2)");
        t.results("(; (a) (a (\\ () (b))) (b (\\ () (c))) (c (\\ () 'z)))", "z");
        t.results("(; (: (. x (f)) (x (f))) (f (\\ () 3)))", "(3 . 3)");
    }

    private static void recursion() {
        Session s = new Session(250);
        s.results("(; (f 6) (f (\\ (n) (? n (* n (f (- n 1))) 1))))", "720");
        s.results("(; (e 7) (e (\\ (n) (? n (o (- n 1)) 'y))) (o (\\ (n) (? n (e (- n 1)) 'n))))", "n");
        s.results("(; (r '(1 2 3) '()) (r (\\ (l a) (? (! l) a (r (_ l) (. (^ l) a))))))", "(3 2 1)");
    }

    /** "8 c d: x is taken off S, it must be an int; D = C : D; C = c if x is not 0, else d." */
    private static void choices() {
        int[] numbers = {1, -1, 2, 9999, -9999, 0};
        for (int number : numbers) {
            Session s = started("(. (? " + number + " (+ 1 2) 'a) 4)");
            s.steps(1, 1, 1, 0);
            s.steps(1, 1, 2, 0);
            s.steps(8, 1, 1, 1);
            ended(s, number == 0 ? "(a . 4)" : "(3 . 4)");
        }
        // What is not chosen is not run.
        Session t = new Session(60);
        t.results("(+ (? 0 (^ 1) 3) (? 1 4 (^ 1)))", "7");
    }

    /** "9: C is taken off D." */
    private static void rejoining() {
        Session s = started("(. (? 1 (? 0 2 3) 4) 5)");
        s.run(3);
        s.steps(1, 1, 2, 1);
        s.steps(8, 1, 1, 2);
        s.steps(1, 1, 2, 2);
        s.steps(9, 0, 2, 1);
        s.steps(9, 0, 2, 0);
        s.steps(13, 2, 1, 0);
        ended(s, "(3 . 5)");
    }

    /** "10, 11: x is taken off S, it must be a pair; S = its head, or tail, : S." */
    private static void headsAndTails() {
        Session s = started("(. (^ '(a b)) (_ '(a b)))");
        s.run(1);
        s.steps(11, 1, 1, 0);
        s.run(1);
        s.steps(10, 1, 2, 0);
        ended(s, "(a b)");
        Session t = new Session(60);
        t.results("(^ (. 1 2))", "1");
        t.results("(_ (. 1 2))", "2");
        t.results("(_ '(a))", "()");
        t.results("(^ (_ '(1 2 3)))", "2");
        t.results("(_ (^ '((1 2))))", "(2)");
    }

    /** "12: x is taken off S; S = (1 if it is no pair, else 0) : S." */
    private static void noPairs() {
        Session s = started("(. 5 (! '(a)))");
        s.run(1);
        s.steps(12, 1, 1, 0);
        ended(s, "(5 . 0)");
        Session t = new Session(60);
        t.results("(! '(a))", "0");
        t.results("(! (. 1 2))", "0");
        t.results("(! '())", "1");
        t.results("(! 0)", "1");
        t.results("(! 1)", "1");
        t.results("(! 'a)", "1");
        t.results("(! (\\ (x) x))", "1");
    }

    /** "13: x, then y are taken off S; S = (x : y) : S." */
    private static void newPairs() {
        Session s = started("(. 1 (. 2 3))");
        s.run(2);
        s.steps(13, 2, 1, 0);
        s.run(1);
        s.steps(13, 2, 1, 0);
        ended(s, "(1 2 . 3)");
    }

    /** "14: y, then x; S = (1 if both are the same int, symbol, or NIL, else 0) : S." */
    private static void same() {
        Session s = started("(. (= 4 4) 5)");
        s.run(3);
        s.steps(14, 1, 2, 0);
        ended(s, "(1 . 5)");
        Session t = new Session(60);
        t.results("(= 2 2)", "1");
        t.results("(= 2 3)", "0");
        t.results("(= 2 -2)", "0");
        t.results("(= 'a 'a)", "1");
        t.results("(= 'a 'b)", "0");
        t.results("(= 'a 97)", "0");
        t.results("(= 'a 0)", "0");
        t.results("(= 0 '())", "0");
        t.results("(= '() 0)", "0");
        t.results("(= '() '())", "1");
        t.results("(= '(1) '(1))", "0");
        t.results("(= '(1) '())", "0");
        Session u = new Session(60);
        u.results("(: (= x x) (x '(1)))", "0");
        u.results("(: (= x x) (x (\\ () 1)))", "0");
        u.results("(: (= x x) (x 'q))", "1");
    }

    /** "15 .. 18: y, then x; both must be ints; S = x + y, x - y, x * y, 1 if x is less than y or else 0, : S." */
    private static void sums() {
        String[] signs = {"+", "-", "*", "<"};
        int[] numbers = {0, 1, -1, 7, 12, -345, 9999, -9999};
        for (int k = 0; k < signs.length; k++) {
            Session s = started("(. (" + signs[k] + " 3 7) 5)");
            s.run(3);
            s.steps(15 + k, 1, 2, 0);
            for (int x : numbers) {
                for (int y : numbers) {
                    int[] due = {x + y, x - y, x * y, x < y ? 1 : 0};
                    new Session(20).results("(" + signs[k] + " " + x + " " + y + ")", "" + due[k]);
                }
            }
        }
    }

    /** "19: the machine is DONE (state 2), its RESULT the head of S." */
    private static void done() {
        Session s = started("(. 1 2)");
        s.run(3);
        Session.due("state before 19", s.machine.state(), 1);
        s.steps(19, 0, 1, 0);
        Session.due("state behind 19", s.machine.state(), 2);
        Session.due("result", s.shown(), "(1 . 2)");
    }

    /** Each instruction takes as many values off S as the document tells, and leaves those below. */
    private static void whatIsTakenOffS() {
        leavesBelow("1", 1, "1");
        leavesBelow("(^ '(5 6))", 2, "5");
        leavesBelow("(_ '(5 6))", 2, "(6)");
        leavesBelow("(! 5)", 2, "1");
        leavesBelow("(. 5 6)", 3, "(5 . 6)");
        leavesBelow("(= 5 6)", 3, "0");
        leavesBelow("(+ 5 6)", 3, "11");
        leavesBelow("(- 5 6)", 3, "-1");
        leavesBelow("(* 5 6)", 3, "30");
        leavesBelow("(< 5 6)", 3, "1");
        leavesBelow("(\\ () 1)", 1, "#");
        leavesBelow("(? 5 6 7)", 4, "6");
        leavesBelow("((\\ (x) x) 5)", 7, "5");
        leavesBelow("(: x (x 5))", 7, "5");
        leavesBelow("(; 5 (f (\\ () 6)))", 8, "5");
    }

    /** Runs an expression that takes so many steps, with one value below it on S and with three. */
    private static void leavesBelow(String expression, int steps, String shown) {
        Session s = new Session(120);
        s.load("(. " + expression + " (. 'b 'c))");
        s.machine.start();
        s.run(3 + steps);
        Session.due("values on S behind " + expression, s.machine.count(5), 2);
        s.finish();
        Session.due("result with " + expression, s.shown(), "(" + shown + " b . c)");
        Session t = new Session(120);
        t.load("(+ 1 (* 2 (^ (. " + expression + " 3))))");
        t.machine.start();
        t.run(3 + steps);
        Session.due("values on S behind " + expression, t.machine.count(5), 4);
        t.run(2);
        Session.due("values on S with a pair made and taken apart", t.machine.count(5), 3);
    }

    /** "What must be and is not (..): the machine is WRONG (state 3)". */
    private static void wrongValues() {
        Session s = new Session(120);
        s.ends("(^ 5)", 3, 2);
        s.ends("(_ 'a)", 3, 2);
        s.ends("(^ '())", 3, 2);
        s.ends("(_ (\\ () 1))", 3, 2);
        s.ends("(5 1)", 3, 5);
        s.ends("('a)", 3, 3);
        s.ends("('())", 3, 3);
        s.ends("('(1))", 3, 3);
        s.ends("((. 1 2))", 3, 5);
        s.ends("(? 'a 1 2)", 3, 2);
        s.ends("(? '() 1 2)", 3, 2);
        s.ends("(? '(1) 1 2)", 3, 2);
        s.ends("(? (\\ () 1) 1 2)", 3, 2);
        String[] signs = {"+", "-", "*", "<"};
        for (String sign : signs) {
            Session t = new Session(60);
            t.ends("(" + sign + " 'a 1)", 3, 3);
            t.ends("(" + sign + " 1 'a)", 3, 3);
            t.ends("(" + sign + " '() 1)", 3, 3);
            t.ends("(" + sign + " 1 '())", 3, 3);
            t.ends("(" + sign + " '(1) 1)", 3, 3);
            t.ends("(" + sign + " 1 '(1))", 3, 3);
            t.ends("(" + sign + " (\\ () 1) 1)", 3, 3);
            t.ends("(" + sign + " 1 (\\ () 1))", 3, 3);
        }
    }

    /** "Nothing of that step is done". */
    private static void nothingOfTheStepIsDone() {
        Session s = new Session(60);
        s.ends("(+ 1 (+ 2 'a))", 3, 4);
        s.counts("behind a wrong sum", 12, 12, 0, 0, 4, 3, 0);
        s.ends("(. 1 (2 3))", 3, 5);
        s.counts("behind a wrong call", 17, 15, 0, 0, 5, 2, 0);
        s.ends("(. 1 (? 'a 1 2))", 3, 2);
        s.counts("behind a wrong choice", 16, 16, 0, 0, 2, 1, 0);
        s.ends("(. (^ 'a) 1)", 3, 3);
        s.counts("behind a wrong head", 9, 9, 0, 0, 3, 2, 0);
    }

    /** "Ints wrap". */
    private static void intsWrap() {
        // x is 2 to the 30th, so that (+ x x) is the least int and (- (+ x x) 1) the largest.
        wraps("(+ x x)", "-2147483648");
        wraps("(- (+ x x) 1)", "2147483647");
        wraps("(+ (- (+ x x) 1) 1)", "-2147483648");
        wraps("(- 0 (+ x x))", "-2147483648");
        wraps("(- x (- 0 x))", "-2147483648");
        wraps("(* x 2)", "-2147483648");
        wraps("(* x 3)", "-1073741824");
        wraps("(* x 4)", "0");
        wraps("(* x x)", "0");
        wraps("(* (+ x x) -1)", "-2147483648");
        wraps("(* (- (+ x x) 1) 2)", "-2");
        wraps("(* (- (+ x x) 1) (- (+ x x) 1))", "1");
        wraps("(< (+ x x) 1)", "1");
        wraps("(< 1 (+ x x))", "0");
        wraps("(< (+ x x) (- (+ x x) 1))", "1");
        wraps("(< (- (+ x x) 1) (+ x x))", "0");
        wraps("(= (+ x x) (* -2 x))", "1");
        wraps("(= (* x 4) 0)", "1");
        wraps("(? (* x 4) 1 2)", "2");
        wraps("(? (+ x x) 1 2)", "1");
        new Session(60).results("(* (* 9999 9999) (* 9999 9999))", "1089432001");
    }

    private static void wraps(String body, String shown) {
        new Session(120).results("(: " + body + " (x (* 8192 (* 8192 16))))", shown);
    }

    /** "States: 0 idle, 1 running." */
    private static void states() {
        Session s = new Session(20);
        Session.due("state of a new object", s.machine.state(), 0);
        s.load("(! 1)");
        Session.due("state behind compile", s.machine.state(), 0);
        s.machine.start();
        Session.due("state behind start", s.machine.state(), 1);
        s.run(2);
        Session.due("state before the last step", s.machine.state(), 1);
    }
}
