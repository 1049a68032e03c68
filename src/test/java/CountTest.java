/** Promise 8: count. */
public final class CountTest {
    private static final String FACTORIAL = "(; (f 5) (f (\\ (n) (? (< n 1) 1 (* n (f (- n 1)))))))";

    public static void main(String[] args) {
        otherWhats();
        beforeAFirstStart();
        stepByStep();
        callsAndChoices();
        collections();
        atTheEnd();
        atEachEnd();
        behindCompile();
        behindEachStart();
        functionsInAFrame();
        Session.end();
    }

    /** "NONE for another what". */
    private static void otherWhats() {
        Session s = new Session(60);
        int[] others = {-1, 7, 8, Integer.MIN_VALUE, Integer.MAX_VALUE};
        for (int what : others) {
            Session.due("count(" + what + ")", s.machine.count(what), -1);
        }
        s.load("1");
        s.machine.start();
        for (int what : others) {
            Session.due("count(" + what + ")", s.machine.count(what), -1);
        }
    }

    /** "All are 0 before a first start, but used cells and those that can be reached". */
    private static void beforeAFirstStart() {
        Session s = new Session(60);
        s.counts("without a program", 0, 0, 0, 0, 0, 0, 0);
        s.load("(. 'a '(1 2))");
        s.counts("before a first start", 8, 8, 0, 0, 0, 0, 0);
        s.run(3);
        s.counts("before a first start", 8, 8, 0, 0, 0, 0, 0);
    }

    private static void stepByStep() {
        Session s = new Session(60);
        s.load("(! (. (+ 1 2) 3))");
        s.machine.start();
        s.counts("at the beginning", 10, 10, 0, 0, 0, 0, 0);
        s.run(1);
        s.counts("behind 1 3", 11, 11, 0, 0, 1, 1, 0);
        s.run(2);
        s.counts("behind 1 1, 1 2", 13, 13, 0, 0, 3, 3, 0);
        s.run(1);
        s.counts("behind 15", 14, 12, 0, 0, 4, 2, 0);
        s.run(1);
        s.counts("behind 13", 16, 12, 0, 0, 5, 1, 0);
        s.run(1);
        s.counts("behind 12", 17, 11, 0, 0, 6, 1, 0);
        s.run(1);
        s.counts("behind 19", 17, 11, 0, 0, 7, 1, 0);
    }

    private static void callsAndChoices() {
        Session s = new Session(60);
        s.load("(. ((\\ (x) (? x x 2)) 1) 3)");
        s.machine.start();
        s.counts("at the beginning", 24, 24, 0, 0, 0, 0, 0);
        s.run(5);
        s.counts("behind 1 3, 1 NIL, 1 1, 13, 3", 31, 29, 0, 0, 5, 3, 0);
        s.run(1);
        s.counts("behind 4", 35, 30, 0, 0, 6, 0, 3);
        s.run(1);
        s.counts("behind 2", 36, 31, 0, 0, 7, 1, 3);
        s.run(1);
        s.counts("behind 8", 37, 31, 0, 0, 8, 0, 4);
        s.run(1);
        s.counts("behind 2", 38, 32, 0, 0, 9, 1, 4);
        s.run(1);
        s.counts("behind 9", 38, 31, 0, 0, 10, 1, 3);
        s.run(1);
        s.counts("behind 5", 39, 26, 0, 0, 11, 2, 0);
    }

    private static void collections() {
        Session s = new Session(20);
        s.load("(! (! (! (! (! (! (! (! '(1 1)))))))))");
        s.machine.start();
        s.run(7);
        s.counts("with all cells used", 20, 14, 0, 0, 7, 1, 0);
        s.run(1);
        s.counts("behind a collection", 15, 14, 1, 6, 8, 1, 0);
        s.run(200);
        s.counts("at the end", 16, 14, 1, 6, 10, 1, 0);
    }

    /** "S, E, C, D stay what they are when the machine ends". */
    private static void atTheEnd() {
        Session s = new Session(120);
        s.load(FACTORIAL);
        s.machine.start();
        s.run(40);
        s.counts("in the middle", 103, 73, 0, 0, 40, 1, 15);
        s.run(200);
        s.counts("at the end", 69, 47, 2, 94, 95, 1, 0);
        s.run(200);
        s.counts("behind the end", 69, 47, 2, 94, 95, 1, 0);
    }

    /** The same for each state that it can end in. */
    private static void atEachEnd() {
        Session s = new Session(60);
        s.ends("(. 1 ((\\ (x) (+ x 'a)) 2))", 3, 8);
        s.counts("in state 3", 30, 25, 0, 0, 8, 2, 3);
        s.run(200);
        s.counts("behind run in state 3", 30, 25, 0, 0, 8, 2, 3);
        Session t = new Session(38);
        t.ends("(. 1 ((\\ (x) (. x (. x (. x (. x (. x x)))))) 2))", 4, 8);
        t.counts("in state 4", 37, 37, 3, 5, 8, 2, 3);
        t.run(200);
        t.counts("behind run in state 4", 37, 37, 3, 5, 8, 2, 3);
        s.ends("7", 2, 2);
        s.counts("in state 2", 4, 4, 0, 0, 2, 1, 0);
    }

    /** "And are NIL before a first start and behind compile". */
    private static void behindCompile() {
        Session s = new Session(120);
        s.load(FACTORIAL);
        s.machine.start();
        s.run(80);
        int takenBack = s.machine.count(3);
        s.load("'(1)");
        Session.due("used cells behind compile", s.machine.count(0), 4);
        Session.due("reached cells behind compile", s.machine.count(1), 4);
        Session.due("S behind compile", s.machine.count(5), 0);
        Session.due("D behind compile", s.machine.count(6), 0);
        // Since the start, which is still the latest one.
        Session.due("collections behind compile", s.machine.count(2), 1);
        Session.due("cells taken back behind compile", s.machine.count(3), takenBack);
        Session.due("steps behind compile", s.machine.count(4), 80);
        s.machine.start();
        s.counts("behind the next start", 4, 4, 0, 0, 0, 0, 0);
    }

    /** "Since the start": the latest one, whether there was another program between or not. */
    private static void behindEachStart() {
        Session s = new Session(120);
        s.load(FACTORIAL);
        for (int k = 0; k < 3; k++) {
            s.machine.start();
            s.counts("behind start", 46, 46, 0, 0, 0, 0, 0);
            Session.due("steps", s.run(80), 80);
            Session.due("collections", s.machine.count(2), 1);
            Session.due("whether cells were taken back", s.machine.count(3) > 0, true);
        }
        s.load("(! 1)");
        s.machine.start();
        s.counts("behind start of another program", 4, 4, 0, 0, 0, 0, 0);
        s.run(2);
        s.counts("behind its steps", 6, 5, 0, 0, 2, 1, 0);
    }

    private static void functionsInAFrame() {
        Session s = new Session(60);
        s.load("(; 1 (f (\\ () 2)))");
        s.machine.start();
        s.counts("at the beginning", 16, 16, 0, 0, 0, 0, 0);
        s.run(5);
        s.counts("behind 6, 1 NIL, 3, 13, 3", 24, 22, 0, 0, 5, 2, 0);
        s.run(1);
        s.counts("behind 7", 27, 22, 0, 0, 6, 0, 3);
        s.run(2);
        s.counts("behind 1, 5", 29, 17, 0, 0, 8, 1, 0);
    }
}
