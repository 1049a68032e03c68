/**
 * Terms, NEEDS: a store with fewer free cells than a step needs, and what is collected then. Each program
 * is first run in a store where nothing is ever collected, to see its instructions and how many cells
 * can be reached before each. What must come of it in a smaller store follows from these and the needs.
 */
public final class NeedsTest {
    /** The needs of the instructions 1 .. 19; each step that is done takes just as many cells. */
    private static final int[] NEEDS = {0, 1, 1, 2, 4, 1, 1, 3, 1, 0, 1, 1, 1, 2, 1, 1, 1, 1, 1, 0};
    private static final int MOST_STEPS = 100;

    private static final String[] PROGRAMS = {
        "'(1 1 1 1 1 1 1 1 1 1 1 1 1 1)",
        "(^ (_ '(1 1 1 1 1 1 1 1 1 1 1 1)))",
        "(. (+ 1 2) (. (- 3 4) (. (* 5 6) (. (< 7 8) (= 9 9)))))",
        "(. '(1 1 1 1) (. (! (! (! 1))) (. 2 3)))",
        "(? (? 0 1 (! 1)) (. 1 (? 1 2 3)) 4)",
        "((\\ (x y z) (. x (. (+ y z) x))) 1 2 3)",
        "(: (f (f 3)) (f (\\ (n) (* n n))))",
        "(; (f 2) (f (\\ (n) (? n (. n (f (- n 1))) '()))))",
        "(; (f) (f (\\ () (g 1 2))) (g (\\ (x y) (- x y))))",
        "((((\\ (x) (\\ (y) (\\ (z) (. x (. y z))))) 1) 2) 3)",
        // These end in state 3.
        "(. (^ (! 1)) '(1 1 1 1 1 1 1 1 1 1))",
        "(. (_ (! 1)) '(1 1 1 1 1 1 1 1 1 1))",
        "(. (+ 'a (! 1)) '(1 1 1 1 1 1 1 1 1))",
        "(. (? (^ '(a)) 1 2) '(1 1 1 1 1))",
        "(. ((! 1) 2 3) '(1 1 1 1 1))",
        "(. ((\\ (x y) (+ x y)) 3) '(1 1 1 1))",
    };

    private static final int[] ops = new int[MOST_STEPS];
    private static final int[] reached = new int[MOST_STEPS];
    private static int codeCells;
    private static int steps;
    private static int end;

    public static void main(String[] args) {
        boolean[] seen = new boolean[NEEDS.length];
        for (String program : PROGRAMS) {
            runWithoutCollections(program);
            for (int k = 0; k < steps; k++) {
                seen[ops[k]] = true;
            }
            for (int size = Math.max(20, codeCells); size <= 120; size++) {
                compareWithSize(program, size);
            }
        }
        for (int op = 1; op < seen.length; op++) {
            Session.due("whether instruction " + op + " is in a program", seen[op], true);
        }
        exactlyWhatIsNeeded();
        whatIsReached();
        outOfCells();
        needsBeforeWrongs();
        Session.end();
    }

    private static void runWithoutCollections(String program) {
        Session s = new Session(250);
        s.load(program);
        codeCells = s.machine.count(0);
        s.machine.start();
        int used = codeCells;
        steps = 0;
        while (steps < MOST_STEPS && s.machine.state() == 1) {
            ops[steps] = s.machine.next();
            reached[steps] = s.machine.count(1);
            Session.due("cells used by " + program + " before step " + steps, s.machine.count(0), used);
            used += NEEDS[ops[steps]];
            s.run(1);
            steps++;
        }
        end = s.machine.state();
        Session.due("whether " + program + " ends", end != 1, true);
        Session.due("collections of " + program, s.machine.count(2), 0);
    }

    private static void compareWithSize(String program, int size) {
        Session s = new Session(size);
        s.load(program);
        s.machine.start();
        int used = codeCells;
        int collections = 0;
        int takenBack = 0;
        int state = 1;
        for (int k = 0; k < steps && state == 1; k++) {
            int need = NEEDS[ops[k]];
            if (size - used < need) {
                collections++;
                takenBack += used - reached[k];
                used = reached[k];
            }
            boolean isLast = k == steps - 1;
            if (size - used < need) {
                state = 4;
            } else if (isLast) {
                state = end;
            }
            used += state == 1 || state == 2 ? need : 0;
            s.run(1);
            String when = " of " + program + " in " + size + " behind step " + k;
            Session.due("state" + when, s.machine.state(), state);
            Session.due("used cells" + when, s.machine.count(0), used);
            Session.due("collections" + when, s.machine.count(2), collections);
            Session.due("cells taken back" + when, s.machine.count(3), takenBack);
        }
    }

    /** "If there are fewer free cells": as many as are needed are enough, and nothing is collected. */
    private static void exactlyWhatIsNeeded() {
        // The code has 19 cells; 1 makes one, so that two are free for 13, or one.
        Session s = new Session(23);
        s.ends("(. 1 '(1 1 1 1 1 1 1 1 1 1 1 1 1))", 2, 4);
        s.counts("with two free cells for 13", 23, 21, 0, 0, 4, 1, 0);
        Session t = new Session(22);
        t.ends("(. 1 '(1 1 1 1 1 1 1 1 1 1 1 1 1))", 4, 3);
        t.counts("with one free cell for 13", 21, 21, 1, 0, 3, 2, 0);
    }

    /** "Every used cell that is not reached, by heads and tails, from S, E, C, D and the code". */
    private static void whatIsReached() {
        // Held by S, by E, by D (as what S was, and as what E was), by a function, and by a frame of ;.
        staysInEachSize("(. (! (! (! (! (! (! (! (! 1)))))))) (. (. 1 2) (. 3 4)))", "(1 (1 . 2) 3 . 4)");
        staysInEachSize("((\\ (x) (. (! (! (! (! (! (! 1)))))) x)) (. (. 1 2) (. 3 4)))", "(1 (1 . 2) 3 . 4)");
        staysInEachSize("(. ((\\ () (! (! (! (! (! (! 1)))))))) (. (. 1 2) (. 3 4)))", "(1 (1 . 2) 3 . 4)");
        staysInEachSize("(: (. (: (! (! (! (! (! x))))) (x 1)) (. y y)) (y (. 1 2)))", "(1 (1 . 2) 1 . 2)");
        staysInEachSize("(: (. (! (! (! (! (! (! 1)))))) (f)) (f ((\\ (x) (\\ () x)) (. 1 2))))", "(1 1 . 2)");
        staysInEachSize("(; (f 3) (f (\\ (n) (? n (. (g n) (f (- n 1))) n))) (g (\\ (n) (. n n))))",
                "((3 . 3) (2 . 2) (1 . 1) . 0)");
        staysInEachSize("(; (f 3 '(a)) (f (\\ (n l) (? n (f (- n 1) (. '(b c) l)) l))))", "((b c) (b c) (b c) a)");
    }

    /** However small the store is, it is either too small or the result is the same. */
    private static void staysInEachSize(String program, String shown) {
        boolean isDoneWithCollections = false;
        for (int size = 20; size <= 250; size++) {
            Session s = new Session(size);
            s.write(program);
            if (s.compile() != Session.BAD_STATE) {
                s.machine.start();
                s.finish();
                boolean isDone = s.machine.state() == 2;
                Session.due("state of " + program + " in " + size, s.machine.state(), isDone ? 2 : 4);
                Session.due("result of " + program + " in " + size, s.shown(), isDone ? shown : "");
                isDoneWithCollections |= isDone && s.machine.count(2) > 0;
            }
        }
        Session.due("whether " + program + " ends with collections", isDoneWithCollections, true);
    }

    /** "If there are still fewer, the machine is OUT of cells (state 4)". */
    private static void outOfCells() {
        Session s = new Session(60);
        s.ends("(; (f 9) (f (\\ (n) (? (< n 1) 1 (* n (f (- n 1)))))))", 4, 18);
        s.counts("out of cells", 60, 60, 6, 12, 18, 2, 7);
        Session.due("run out of cells", s.run(9), 0);
        Session t = new Session(250);
        t.load("(; (f) (f (\\ () (f))))");
        t.machine.start();
        t.finish();
        Session.due("state of what never ends", t.machine.state(), 4);
        Session u = new Session(20);
        u.ends("'(1 1 1 1 1 1 1 1 1 1 1 1 1 1 1 1 1)", 4, 1);
        u.counts("without a free cell", 20, 20, 1, 0, 1, 0, 0);
        u.ends("'(1 1 1 1 1 1 1 1 1 1 1 1 1 1 1 1)", 2, 2);
        u.counts("with one free cell", 20, 20, 0, 0, 2, 1, 0);
    }

    /** "Nothing of that step is done (but what was collected)". */
    private static void needsBeforeWrongs() {
        // The pair that ^ would need is not there, so that its wrong value is not looked at.
        Session s = new Session(20);
        s.ends("(. (^ 'a) '(1 1 1 1 1 1 1 1 1 1 1))", 4, 3);
        s.counts("with all cells held", 20, 20, 1, 0, 3, 2, 0);
        s.ends("(. (^ 'a) '(1 1 1 1 1 1 1 1 1 1))", 3, 3);
        s.counts("with one free cell", 19, 19, 0, 0, 3, 2, 0);
        s.ends("(+ (^ '(a 1 1 1 1 1 1 1)) (! 1))", 3, 5);
        s.counts("behind what was collected", 18, 18, 1, 2, 5, 2, 0);
    }
}
