/** Promise 7: state. */
public final class StateTest {
    public static void main(String[] args) {
        everyState();
        fromEachToTheOthers();
        Session.end();
    }

    /** "States: 0 idle, 1 running", "DONE (state 2)", "WRONG (state 3)", "OUT of cells (state 4)". */
    private static void everyState() {
        Session s = new Session(20);
        Session.due("state of a new object", s.machine.state(), 0);
        s.run(9);
        Session.due("state behind run without a program", s.machine.state(), 0);
        s.load("(+ 1 2)");
        Session.due("state behind compile", s.machine.state(), 0);
        s.machine.start();
        Session.due("state behind start", s.machine.state(), 1);
        s.run(3);
        Session.due("state before the last step", s.machine.state(), 1);
        s.run(1);
        Session.due("state behind the last step", s.machine.state(), 2);
        s.run(1);
        Session.due("state behind the end", s.machine.state(), 2);
        s.run(-1);
        s.fails("(", 1);
        Session.due("state behind what threw", s.machine.state(), 2);
        s.ends("(^ 1)", 3, 2);
        s.fails("x", 0);
        Session.due("state behind what threw", s.machine.state(), 3);
        s.ends("((\\ () (1 2 3)))", 4, 2);
        s.hasNoRoomFor("(1 (2 3 4 5) 6)");
        Session.due("state behind what threw", s.machine.state(), 4);
        s.load("1");
        Session.due("state behind compile", s.machine.state(), 0);
    }

    /** What start, run and compile make of each state. */
    private static void fromEachToTheOthers() {
        String[] ends = {"(! 1)", "(^ 1)", "((\\ () (1 2 3)))"};
        int[] states = {2, 3, 4};
        Session s = new Session(20);
        for (int k = 0; k < ends.length; k++) {
            s.load(ends[k]);
            Session.due("state behind compile of " + ends[k], s.machine.state(), 0);
            s.run(200);
            Session.due("state behind run without start", s.machine.state(), 0);
            for (int again = 0; again < 2; again++) {
                s.machine.start();
                Session.due("state behind start of " + ends[k], s.machine.state(), 1);
                s.run(0);
                Session.due("state behind run(0) of " + ends[k], s.machine.state(), 1);
                s.run(200);
                Session.due("state behind run of " + ends[k], s.machine.state(), states[k]);
                s.run(200);
                Session.due("state behind run once more of " + ends[k], s.machine.state(), states[k]);
            }
        }
    }
}
