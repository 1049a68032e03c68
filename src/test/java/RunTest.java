/** Promise 6: run, and the steps that it takes. */
public final class RunTest {
    public static void main(String[] args) {
        numberOfSteps();
        wrongNumbers();
        arithmetic();
        pairs();
        comparisons();
        choices();
        functions();
        recursion();
        wrongValues();
        outOfCells();
        needsBeforeWrongs();
        Session.end();
    }

    private static void numberOfSteps() {
        Session s = new Session(250);
        s.load("(+ 1 (* 2 3))");
        Session.due("run before start", s.run(200), 0);
        s.machine.start();
        Session.due("run(0)", s.run(0), 0);
        Session.due("run(1)", s.run(1), 1);
        Session.due("run(4)", s.run(4), 4);
        Session.due("state", s.machine.state(), 1);
        Session.due("run(200)", s.run(200), 1);
        Session.due("state", s.machine.state(), 2);
        Session.due("run behind the end", s.run(200), 0);
        s.load("(; (f 25 0) (f (\\ (n a) (? n (f (- n 1) (+ n a)) a))))");
        s.machine.start();
        Session.due("run(200)", s.run(200), 200);
        Session.due("run(99)", s.run(99), 99);
        Session.due("steps", s.machine.count(4), 299);
    }

    private static void wrongNumbers() {
        Session s = new Session(60);
        int[] wrong = {-1, 201, 1000, Integer.MIN_VALUE, Integer.MAX_VALUE};
        for (int n : wrong) {
            Session.due("run(" + n + ") without a program", s.run(n), Session.BAD_ARGUMENT);
        }
        s.load("(+ 1 2)");
        s.machine.start();
        for (int n : wrong) {
            Session.due("run(" + n + ")", s.run(n), Session.BAD_ARGUMENT);
        }
        Session.due("steps", s.machine.count(4), 0);
        Session.due("run(200)", s.run(200), 4);
    }

    private static void arithmetic() {
        Session s = new Session(120);
        s.results("(+ 9999 -1)", "9998");
        s.results("(- 3 10)", "-7");
        s.results("(* -12 12)", "-144");
        s.results("(* (* 9999 9999) (* 9999 9999))", "1089432001");
        s.results("(: (+ (* x x) (* x x)) (x (* 256 128)))", "-2147483648");
        s.results("(: (- (+ (* x x) (* x x)) 1) (x (* 256 128)))", "2147483647");
        s.results("(: (* -1 (+ (* x x) (* x x))) (x (* 256 128)))", "-2147483648");
        s.results("(+ 0012 -0)", "12");
    }

    private static void pairs() {
        Session s = new Session(60);
        s.results("(^ (. 1 2))", "1");
        s.results("(_ (. 1 2))", "2");
        s.results("(^ '(a b))", "a");
        s.results("(_ '(a b))", "(b)");
        s.results("(_ '(a))", "()");
        s.results("(! '(a))", "0");
        s.results("(! (. 1 2))", "0");
        s.results("(! '())", "1");
        s.results("(! 0)", "1");
        s.results("(! 'a)", "1");
        s.results("(! (\\ (x) x))", "1");
    }

    private static void comparisons() {
        Session s = new Session(60);
        s.results("(< 1 2)", "1");
        s.results("(< 2 2)", "0");
        s.results("(< 3 2)", "0");
        s.results("(< -3 2)", "1");
        s.results("(= 2 2)", "1");
        s.results("(= 2 3)", "0");
        s.results("(= 'a 'a)", "1");
        s.results("(= 'a 'b)", "0");
        s.results("(= 'a 97)", "0");
        s.results("(= 0 '())", "0");
        s.results("(= '() '())", "1");
        s.results("(= '(1) '(1))", "0");
        s.results("(= '(1) '())", "0");
        s.results("(: (= x x) (x '(1)))", "0");
        s.results("(: (= x x) (x (\\ () 1)))", "0");
        s.results("(: (= x x) (x 'q))", "1");
    }

    private static void choices() {
        Session s = new Session(60);
        s.results("(? 1 2 3)", "2");
        s.results("(? -1 2 3)", "2");
        s.results("(? 0 2 3)", "3");
        s.results("(+ (? 0 (^ 1) 3) (? 1 4 (^ 1)))", "7");
    }

    private static void functions() {
        Session s = new Session(120);
        s.results("((\\ () 7))", "7");
        s.results("((\\ () 7) 1 2 3)", "7");
        s.results("((\\ (x y z) (- x (- y z))) 1 2 3)", "2");
        s.results("((\\ (x) (x (x 3))) (\\ (n) (* n n)))", "81");
        s.results("(((\\ (x) (\\ (y) (- x y))) 9) 4)", "5");
        s.results("(: (f 4) (f ((\\ (x) (\\ (y) (- x y))) 9)) (x 1))", "5");
        s.results("(+ ((\\ (x) (* x x)) 3) ((\\ (x) (* x x)) 4))", "25");
        s.results("(. 1 (: 2 (x 3)))", "(1 . 2)");
    }

    private static void recursion() {
        Session s = new Session(250);
        s.results("(; (f 6) (f (\\ (n) (? n (* n (f (- n 1))) 1))))", "720");
        s.results("(; (e 7) (e (\\ (n) (? n (o (- n 1)) 'y))) (o (\\ (n) (? n (e (- n 1)) 'n))))", "n");
        s.results("(; (r '(1 2 3) '()) (r (\\ (l a) (? (! l) a (r (_ l) (. (^ l) a))))))", "(3 2 1)");
        s.results("(: (. x (; (f) (f (\\ () x)))) (x 4))", "(4 . 4)");
        s.results("(. (; (f 1) (f (\\ (x) x))) (; (g 2) (g (\\ (x) x))))", "(1 . 2)");
        s.results("((\\ (x) (. (; (f 1) (f (\\ (y) y))) x)) 9)", "(1 . 9)");
    }

    private static void wrongValues() {
        Session s = new Session(120);
        s.ends("(^ 5)", 3, 2);
        s.ends("(_ 'a)", 3, 2);
        s.ends("(^ '())", 3, 2);
        s.ends("(_ (\\ () 1))", 3, 2);
        s.ends("(5 1)", 3, 5);
        s.ends("('a)", 3, 3);
        s.ends("('(1))", 3, 3);
        s.ends("((. 1 2))", 3, 5);
        s.ends("(? 'a 1 2)", 3, 2);
        s.ends("(? '() 1 2)", 3, 2);
        s.ends("(? (\\ () 1) 1 2)", 3, 2);
        String[] signs = {"+", "-", "*", "<"};
        for (String sign : signs) {
            s.ends("(" + sign + " 'a 1)", 3, 3);
            s.ends("(" + sign + " 1 'a)", 3, 3);
            s.ends("(" + sign + " '() 1)", 3, 3);
            s.ends("(" + sign + " 1 '(1))", 3, 3);
        }
        s.ends("((\\ (x y) y) 1)", 3, 6);
        s.ends("((\\ (x) x))", 3, 4);
        s.ends("((\\ (x y z) z) 1 2)", 3, 8);
        s.ends("((\\ (x) ((\\ (y) x) 1)))", 3, 9);
        nothingOfTheStepIsDone();
    }

    private static void nothingOfTheStepIsDone() {
        Session s = new Session(60);
        s.ends("(+ 1 (+ 2 'a))", 3, 4);
        s.counts("behind a wrong sum", 12, 12, 0, 0, 4, 3, 0);
        s.ends("(. 1 (2 3))", 3, 5);
        s.counts("behind a wrong call", 17, 15, 0, 0, 5, 2, 0);
        s.ends("(. 1 (? 'a 1 2))", 3, 2);
        s.counts("behind a wrong choice", 16, 16, 0, 0, 2, 1, 0);
        s.ends("(. (^ 'a) 1)", 3, 3);
        s.counts("behind a wrong head", 9, 9, 0, 0, 3, 2, 0);
    }

    private static void outOfCells() {
        Session s = new Session(60);
        s.ends("(; (f 9) (f (\\ (n) (? (< n 1) 1 (* n (f (- n 1)))))))", 4, 18);
        s.counts("out of cells", 60, 60, 6, 12, 18, 2, 7);
        Session.due("run out of cells", s.run(9), 0);
        Session t = new Session(250);
        t.load("(; (f) (f (\\ () (f))))");
        t.machine.start();
        t.finish();
        Session.due("state of what never ends", t.machine.state(), 4);
        Session u = new Session(20);
        u.ends("'(1 1 1 1 1 1 1 1 1 1 1 1 1 1 1 1 1)", 4, 1);
        u.counts("without a free cell", 20, 20, 1, 0, 1, 0, 0);
        u.ends("'(1 1 1 1 1 1 1 1 1 1 1 1 1 1 1 1)", 2, 2);
        u.counts("with one free cell", 20, 20, 0, 0, 2, 1, 0);
    }

    private static void needsBeforeWrongs() {
        // The pair that ^ would need is not there, so that its wrong value is not looked at.
        Session s = new Session(20);
        s.ends("(. (^ 'a) '(1 1 1 1 1 1 1 1 1 1 1))", 4, 3);
        s.counts("with all cells held", 20, 20, 1, 0, 3, 2, 0);
        s.ends("(. (^ 'a) '(1 1 1 1 1 1 1 1 1 1))", 3, 3);
        s.counts("with one free cell", 19, 19, 0, 0, 3, 2, 0);
        s.ends("(+ (^ '(a 1 1 1 1 1 1 1)) (! 1))", 3, 5);
        s.counts("behind what was collected", 18, 18, 1, 2, 5, 2, 0);
    }
}
