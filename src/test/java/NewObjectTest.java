/** Promise 1: a new object. */
public final class NewObjectTest {
    public static void main(String[] args) {
        emptyAndIdle();
        smallSizes();
        largeSizes();
        Session.end();
    }

    /** "No program; idle, all cells free." */
    private static void emptyAndIdle() {
        Session s = new Session(60);
        Session.due("state of a new object", s.machine.state(), 0);
        Session.due("position of a new object", s.machine.position(), -1);
        Session.due("next of a new object", s.machine.next(), -1);
        Session.due("shown of a new object", s.machine.shown(0), -1);
        Session.due("run of a new object", s.run(5), 0);
        Session.due("start of a new object", s.machine.start(), false);
        s.counts("of a new object", 0, 0, 0, 0, 0, 0, 0);
        Session.due("NONE", PairMachine.NONE, -1);
    }

    /** "SIZE is size, but 20 if that is less". */
    private static void smallSizes() {
        int[] small = {Integer.MIN_VALUE, -1, 0, 1, 19, 20};
        for (int size : small) {
            new Session(size).compiles(list(17), 20);
            new Session(size).hasNoRoomFor(list(18));
        }
        new Session(21).compiles(list(18), 21);
        new Session(21).hasNoRoomFor(list(19));
        new Session(49).hasNoRoomFor(list(47));
        new Session(50).compiles(list(47), 50);
    }

    /** "and 250 if that is more". */
    private static void largeSizes() {
        Session.due("size of 248", mostUsed(248), 248);
        Session.due("size of 249", mostUsed(249), 249);
        Session.due("size of 250", mostUsed(250), 250);
        Session.due("size of 251", mostUsed(251), 250);
        Session.due("size of the largest int", mostUsed(Integer.MAX_VALUE), 250);
    }

    /** A datum with so many parts: its code has three cells more. */
    private static String list(int parts) {
        StringBuilder text = new StringBuilder("'(1");
        for (int k = 1; k < parts; k++) {
            text.append(" 1");
        }
        return text.append(')').toString();
    }

    /** Programs that make pairs and drop most: one of them fills the store to the last cell. */
    private static int mostUsed(int size) {
        int most = 0;
        for (int signs = 1; signs <= 5; signs++) {
            Session s = new Session(size);
            s.load("(; (f 0) (f (\\ (n) (f " + "(! ".repeat(signs) + "n" + ")".repeat(signs) + "))))");
            s.machine.start();
            for (int k = 0; k < 240; k++) {
                s.run(1);
                most = Math.max(most, s.machine.count(0));
            }
        }
        return most;
    }
}
