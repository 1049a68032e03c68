/** Promise 3: compile. */
public final class CompileTest {
    /** A program whose code has 24 cells. */
    private static final String TOO_LONG = "(1 (2 3 4 5) 6)";

    public static void main(String[] args) {
        cellsOfTheForms();
        noProgram();
        emptyText();
        emptiesTheText();
        whatThrowsLeavesTheMachine();
        whatThrowsLeavesEachState();
        makesTheMachineIdle();
        idleBehindEachState();
        roomForTheCode();
        errorsBeforeRoom();
        Session.end();
    }

    private static void cellsOfTheForms() {
        Session s = new Session(250);
        s.compiles("7", 3);
        s.compiles("-0007", 3);
        s.compiles("'a", 3);
        s.compiles("'-12", 3);
        s.compiles("'()", 3);
        s.compiles("'(1 (2) () (a (b)))", 11);
        s.compiles("(^ '(1))", 5);
        s.compiles("(_ 1)", 4);
        s.compiles("(! 1)", 4);
        s.compiles("(. 1 2)", 6);
        s.compiles("(+ 1 -2)", 6);
        s.compiles("(- 1 2)", 6);
        s.compiles("(* 1 2)", 6);
        s.compiles("(= 1 2)", 6);
        s.compiles("(< 1 2)", 6);
        s.compiles("(? 1 2 3)", 12);
        s.compiles("(\\ () 1)", 6);
        s.compiles("(\\ (x y z) z)", 6);
        s.compiles("(1)", 6);
        s.compiles("(-1 2)", 9);
        s.compiles("('a 2 3 4)", 15);
        s.compiles("(: 1 (x 2))", 12);
        s.compiles("(: x (x 2) (y 3) (z 4))", 18);
        s.compiles("(; 1 (x (\\ () 2)))", 16);
        s.compiles("(; 1 (x (\\ () 2)) (y (\\ () y)) (z (\\ () x)))", 28);
    }

    /** "IllegalArgumentException if it is none, or names a variable that is not known". */
    private static void noProgram() {
        Session s = new Session(60);
        s.fails("(+ 1)", 4);
        s.fails("+ 1 2", 0);
        s.fails("1 2", 1);
        s.fails("(+ 1 2", 6);
        s.fails("(+ 1 2))", 7);
        s.fails("(+ 1 x)", 5);
        s.fails("(\\ (y) x)", 7);
        s.compiles("(\\ (x) x)", 6);
    }

    /** A text that is empty is no program. */
    private static void emptyText() {
        Session s = new Session(20);
        s.fails("", 0);
        s.compiles("1", 3);
        s.fails("", 0);
        Session.due("write of nothing", s.machine.write(0L), true);
        s.fails("", 0);
        Session.due("start behind an empty text", s.machine.start(), true);
    }

    /** "Takes the text, which becomes empty whatever comes of it". */
    private static void emptiesTheText() {
        Session s = new Session(20);
        s.compiles("1", 3);
        s.compiles("(! 1)", 4);
        s.fails("(", 1);
        s.fails("x", 0);
        s.hasNoRoomFor(TOO_LONG);
        s.compiles("1", 3);
        s.fails("", 0);
    }

    /** "What throws leaves the program and the machine as they are". */
    private static void whatThrowsLeavesTheMachine() {
        Session s = new Session(20);
        s.load("(+ 1 (* 2 3))");
        s.machine.start();
        s.run(3);
        s.fails(")", 0);
        s.fails("(+ 1 a)", 5);
        s.hasNoRoomFor(TOO_LONG);
        s.counts("behind what threw", 12, 12, 0, 0, 3, 3, 0);
        Session.due("state behind what threw", s.machine.state(), 1);
        Session.due("next behind what threw", s.machine.next(), 17);
        Session.due("steps behind what threw", s.run(200), 3);
        Session.due("result", s.shown(), "7");
        s.hasNoRoomFor(TOO_LONG);
        s.fails("a", 0);
        Session.due("result behind what threw", s.shown(), "7");
        Session.due("start behind what threw", s.machine.start(), true);
        Session.due("steps behind what threw", s.run(200), 6);
        Session.due("result", s.shown(), "7");
        Session none = new Session(20);
        none.hasNoRoomFor(TOO_LONG);
        Session.due("start without a program", none.machine.start(), false);
        none.counts("without a program", 0, 0, 0, 0, 0, 0, 0);
    }

    /** The same in every state, for each reason to throw. */
    private static void whatThrowsLeavesEachState() {
        String[] wrongs = {"(", "(+ x 1)", TOO_LONG};
        for (String text : wrongs) {
            leaves(text, "(! 1)", 0, 0);
            leaves(text, "(! 1)", 1, 2);
            leaves(text, "(! 1)", 2, 200);
            leaves(text, "(+ 'a (! 1))", 3, 200);
            leaves(text, "((\\ () (1 2 3)))", 4, 200);
        }
    }

    private static void leaves(String wrong, String program, int state, int steps) {
        Session s = new Session(20);
        s.load(program);
        if (state != 0) {
            s.machine.start();
            s.run(steps);
        }
        Session.due("state of " + program, s.machine.state(), state);
        int[] before = countsOf(s);
        int next = s.machine.next();
        String shown = s.shown();
        s.write(wrong);
        Session.due("whether " + wrong + " throws", s.compile() < 0, true);
        String when = " behind " + wrong + " in state " + state;
        Session.due("state" + when, s.machine.state(), state);
        Session.due("next" + when, s.machine.next(), next);
        Session.due("shown" + when, s.shown(), shown);
        s.counts(when, before);
        int end = state == 0 || state == 1 ? 2 : state;
        Session.due("start" + when, s.machine.start(), true);
        s.run(200);
        Session.due("state at the end" + when, s.machine.state(), end);
        if (end == 2) {
            Session.due("result" + when, s.shown(), "1");
        }
    }

    private static int[] countsOf(Session s) {
        int[] counts = new int[7];
        for (int what = 0; what < 7; what++) {
            counts[what] = s.machine.count(what);
        }
        return counts;
    }

    /** "Idle then". */
    private static void makesTheMachineIdle() {
        Session s = new Session(60);
        s.load("(+ 1 (* 2 3))");
        s.machine.start();
        s.run(3);
        s.compiles("(! 1)", 4);
        Session.due("state behind compile", s.machine.state(), 0);
        Session.due("next behind compile", s.machine.next(), -1);
        Session.due("run behind compile", s.run(9), 0);
        Session.due("cells reached behind compile", s.machine.count(1), 4);
        Session.due("S behind compile", s.machine.count(5), 0);
        s.results("'a", "a");
        s.compiles("'b", 3);
        Session.due("shown behind compile", s.machine.shown(0), -1);
    }

    /** Whatever the state was; and all cells but those of the new code are free. */
    private static void idleBehindEachState() {
        String[] programs = {"(! 1)", "(! 1)", "(! 1)", "(+ 'a (! 1))", "((\\ () (1 2 3)))"};
        int[] steps = {0, 2, 200, 200, 200};
        for (int state = 0; state < programs.length; state++) {
            Session s = new Session(20);
            s.load(programs[state]);
            if (state != 0) {
                s.machine.start();
                s.run(steps[state]);
            }
            Session.due("state of " + programs[state], s.machine.state(), state);
            s.compiles("(! (! '(1)))", 6);
            String when = "behind compile in state " + state;
            Session.due("state " + when, s.machine.state(), 0);
            Session.due("next " + when, s.machine.next(), -1);
            Session.due("shown " + when, s.machine.shown(0), -1);
            Session.due("run " + when, s.run(200), 0);
            Session.due("reached cells " + when, s.machine.count(1), 6);
            Session.due("S " + when, s.machine.count(5), 0);
            Session.due("D " + when, s.machine.count(6), 0);
            Session.due("start " + when, s.machine.start(), true);
            s.counts("behind start in state " + state, 6, 6, 0, 0, 0, 0, 0);
        }
    }

    /** "IllegalStateException if there are not as many cells". */
    private static void roomForTheCode() {
        String recursive = "(; (f 5) (f (\\ (n) (? (< n 1) 1 (* n (f (- n 1)))))))";
        new Session(45).hasNoRoomFor(recursive);
        new Session(46).compiles(recursive, 46);
        new Session(47).compiles(recursive, 46);
        String deep = "(1 1 1 1)";
        for (int k = 1; k < 9; k++) {
            deep = "(1 1 1 " + deep + ")";
        }
        new Session(110).hasNoRoomFor(deep);
        new Session(111).compiles(deep, 111);
    }

    /** What is no program, or names what is not known, is that also where its code would be too long. */
    private static void errorsBeforeRoom() {
        Session s = new Session(20);
        s.hasNoRoomFor("((1 2 3 4) 5 6 7)");
        s.fails("((1 2 3 4) 5 6 7", 16);
        s.fails("((1 2 3 4) 5 6 7 8)", 16);
        s.fails("((1 2 3 4) 5 6 x)", 15);
        s.fails("((1 2 3 y) 5 6 x)", 8);
    }
}
