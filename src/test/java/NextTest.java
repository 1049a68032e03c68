/** Promise 9: next. */
public final class NextTest {
    public static void main(String[] args) {
        Session s = new Session(60);
        Session.due("next of a new object", s.machine.next(), -1);
        s.load("(; (f 0) (f (\\ (n) (? n 1 (^ (_ '(1 2)))))))");
        Session.due("next before start", s.machine.next(), -1);
        s.machine.start();
        int[] instructions = {6, 1, 3, 13, 3, 7, 1, 1, 13, 2, 4, 2, 8, 1, 11, 10, 9, 5, 5, 19};
        for (int instruction : instructions) {
            Session.due("next", s.machine.next(), instruction);
            Session.due("next once more", s.machine.next(), instruction);
            s.run(1);
        }
        Session.due("next behind the end", s.machine.next(), -1);
        s.machine.start();
        Session.due("next at the beginning", s.machine.next(), 6);
        s.ends("(^ 1)", 3, 2);
        Session.due("next in state 3", s.machine.next(), -1);
        Session t = new Session(20);
        t.ends("((\\ () (1 2 3)))", 4, 2);
        Session.due("next in state 4", t.machine.next(), -1);
        Session.end();
    }
}
