/** Promise 9: next. */
public final class NextTest {
    public static void main(String[] args) {
        eachInstruction();
        whenItIsNotRunning();
        behindWhatThrows();
        Session.end();
    }

    /** "The instruction that comes next, if the machine is running". */
    private static void eachInstruction() {
        Session s = new Session(60);
        s.load("(; (f 0) (f (\\ (n) (? n 1 (^ (_ '(1 2)))))))");
        s.machine.start();
        int[] instructions = {6, 1, 3, 13, 3, 7, 1, 1, 13, 2, 4, 2, 8, 1, 11, 10, 9, 5, 5, 19};
        for (int instruction : instructions) {
            Session.due("next", s.machine.next(), instruction);
            Session.due("next once more", s.machine.next(), instruction);
            s.run(0);
            Session.due("next behind run(0)", s.machine.next(), instruction);
            s.run(1);
        }
        Session.due("next behind the end", s.machine.next(), -1);
        s.machine.start();
        Session.due("next at the beginning", s.machine.next(), 6);
    }

    /** "NONE if not". */
    private static void whenItIsNotRunning() {
        Session s = new Session(20);
        Session.due("next of a new object", s.machine.next(), -1);
        s.machine.start();
        Session.due("next without a program", s.machine.next(), -1);
        s.load("(! 1)");
        Session.due("next before start", s.machine.next(), -1);
        s.machine.start();
        s.run(1);
        Session.due("next", s.machine.next(), 12);
        s.load("(^ 1)");
        Session.due("next behind compile", s.machine.next(), -1);
        s.ends("(! 1)", 2, 3);
        Session.due("next in state 2", s.machine.next(), -1);
        s.ends("(^ 1)", 3, 2);
        Session.due("next in state 3", s.machine.next(), -1);
        s.ends("((\\ () (1 2 3)))", 4, 2);
        Session.due("next in state 4", s.machine.next(), -1);
    }

    private static void behindWhatThrows() {
        Session s = new Session(20);
        s.load("(! 1)");
        s.machine.start();
        s.run(1);
        s.fails("(", 1);
        Session.due("next behind compile that threw", s.machine.next(), 12);
        s.run(201);
        Session.due("next behind run that threw", s.machine.next(), 12);
    }
}
