/** Promise 7: state. */
public final class StateTest {
    public static void main(String[] args) {
        Session s = new Session(20);
        Session.due("state of a new object", s.machine.state(), 0);
        s.run(9);
        Session.due("state behind run without a program", s.machine.state(), 0);
        s.load("(+ 1 2)");
        Session.due("state behind compile", s.machine.state(), 0);
        s.machine.start();
        Session.due("state behind start", s.machine.state(), 1);
        s.run(3);
        Session.due("state before the last step", s.machine.state(), 1);
        s.run(1);
        Session.due("state behind the last step", s.machine.state(), 2);
        s.run(1);
        Session.due("state behind the end", s.machine.state(), 2);
        s.run(-1);
        s.fails("(", 1);
        Session.due("state behind what threw", s.machine.state(), 2);
        s.ends("(^ 1)", 3, 2);
        s.fails("x", 0);
        Session.due("state behind what threw", s.machine.state(), 3);
        s.ends("((\\ () (1 2 3)))", 4, 2);
        s.hasNoRoomFor("(1 (2 3 4 5) 6)");
        Session.due("state behind what threw", s.machine.state(), 4);
        s.load("1");
        Session.due("state behind compile", s.machine.state(), 0);
        Session.end();
    }
}
