/** Promise 5: start. */
public final class StartTest {
    private static final String FACTORIAL = "(; (f 5) (f (\\ (n) (? (< n 1) 1 (* n (f (- n 1)))))))";

    public static void main(String[] args) {
        needsAProgram();
        changesNothingWithoutAProgram();
        beginsAnew();
        beginsBehindEachEnd();
        Session.end();
    }

    /** "False if there is no program". */
    private static void needsAProgram() {
        Session s = new Session(60);
        Session.due("start without a program", s.machine.start(), false);
        Session.due("state", s.machine.state(), 0);
        s.fails("(", 1);
        Session.due("start without a program", s.machine.start(), false);
        s.load("1");
        Session.due("state behind compile", s.machine.state(), 0);
        Session.due("start", s.machine.start(), true);
        Session.due("state behind start", s.machine.state(), 1);
    }

    /** "The machine is at the beginning, running: true". */
    private static void beginsAnew() {
        Session s = new Session(120);
        s.load(FACTORIAL);
        s.machine.start();
        s.counts("at the beginning", 46, 46, 0, 0, 0, 0, 0);
        Session.due("steps", s.run(80), 80);
        Session.due("collections", s.machine.count(2), 1);
        Session.due("start while it is running", s.machine.start(), true);
        s.counts("at the beginning", 46, 46, 0, 0, 0, 0, 0);
        Session.due("next at the beginning", s.machine.next(), 6);
        Session.due("steps", s.run(200), 95);
        s.counts("at the end", 69, 47, 2, 94, 95, 1, 0);
        Session.due("result", s.shown(), "120");
        Session.due("start behind the end", s.machine.start(), true);
        Session.due("shown behind start", s.machine.shown(0), -1);
        s.counts("at the beginning", 46, 46, 0, 0, 0, 0, 0);
        Session.due("steps", s.run(200), 95);
        Session.due("result", s.shown(), "120");
    }

    private static void changesNothingWithoutAProgram() {
        String[] texts = {"", "(+ 1", "(+ 1 x)", "(1 (2 3 4 5) 6)"};
        int[] positions = {0, 4, 5, -1};
        for (int k = 0; k < texts.length; k++) {
            Session s = new Session(20);
            s.write(texts[k]);
            Session.due("whether " + texts[k] + " throws", s.compile() < 0, true);
            s.write("(! 7");
            Session.due("start behind " + texts[k], s.machine.start(), false);
            Session.due("position behind start", s.machine.position(), positions[k]);
            Session.due("state behind start", s.machine.state(), 0);
            Session.due("next behind start", s.machine.next(), -1);
            Session.due("run behind start", s.run(200), 0);
            s.counts("behind start", 0, 0, 0, 0, 0, 0, 0);
            s.write(")");
            Session.due("compile of (! 7)", s.compile(), 4);
            Session.due("start behind (! 7)", s.machine.start(), true);
        }
    }

    private static void beginsBehindEachEnd() {
        Session s = new Session(20);
        s.ends("(^ 5)", 3, 2);
        Session.due("start behind state 3", s.machine.start(), true);
        Session.due("state behind start", s.machine.state(), 1);
        s.counts("at the beginning", 4, 4, 0, 0, 0, 0, 0);
        s.ends("((\\ () (1 2 3)))", 4, 2);
        Session.due("start behind state 4", s.machine.start(), true);
        Session.due("state behind start", s.machine.state(), 1);
        s.counts("at the beginning", 18, 18, 0, 0, 0, 0, 0);
    }
}
