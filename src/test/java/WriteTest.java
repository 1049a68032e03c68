/** Promise 2: write. */
public final class WriteTest {
    public static void main(String[] args) {
        bytesFromTheHighestOn();
        zerosAreLeftOut();
        wrongCharacters();
        noMoreThanThereIsRoomFor();
        Session.end();
    }

    private static void bytesFromTheHighestOn() {
        Session s = new Session(60);
        Session.due("write", s.machine.write(0x2827616263646566L), true);
        Session.due("compile of ('abcdef", s.compile(), Session.BAD_ARGUMENT);
        Session.due("position", s.machine.position(), 3);
        Session.due("write", s.machine.write(0x272831203220332DL), true);
        Session.due("write", s.machine.write(0x3429L), true);
        Session.due("compile of '(1 2 3-4)", s.compile(), Session.BAD_ARGUMENT);
        Session.due("position", s.machine.position(), 7);
        s.results("'(1 22 333 4444 -5)", "(1 22 333 4444 -5)");
    }

    private static void zerosAreLeftOut() {
        Session s = new Session(60);
        Session.due("write of '", s.machine.write(0x0027000000000000L), true);
        Session.due("write of nothing", s.machine.write(0L), true);
        Session.due("write of (ab)", s.machine.write(0x2800610020006229L), true);
        Session.due("compile", s.compile(), 5);
        s.machine.start();
        s.finish();
        Session.due("result", s.shown(), "(a b)");
    }

    private static void wrongCharacters() {
        Session s = new Session(60);
        s.write("'(1");
        int[] wrong = {1, 9, 10, 31, 127, 128, 160, 255};
        for (int code : wrong) {
            Session.due("write of " + code, s.machine.write(code), false);
            Session.due("write of 2 and " + code, s.machine.write(0x32L << 56 | code), false);
            Session.due("write of " + code + " and 2", s.machine.write((long) code << 56 | 0x32), false);
        }
        s.write(")");
        Session.due("compile of '(1)", s.compile(), 4);
        int[] ends = {32, 126};
        for (int code : ends) {
            Session.due("write of " + code, s.machine.write(code), true);
            Session.due("compile of " + code, s.compile(), Session.BAD_ARGUMENT);
            Session.due("position of " + code, s.machine.position(), 0);
        }
    }

    private static void noMoreThanThereIsRoomFor() {
        Session s = new Session(200);
        s.write("'(" + "1 ".repeat(44) + "1");
        Session.due("write of 6 with room for 5", s.machine.write(Session.packed(" 2 2 2", 0)), false);
        s.write(" 2 3)");
        Session.due("write of 1 with no room", s.machine.write('x'), false);
        Session.due("write of nothing with no room", s.machine.write(0L), true);
        Session.due("compile of 96 characters", s.compile(), 50);
        s.write("'(" + "1 ".repeat(46) + "1");
        Session.due("write of 2 with room for 1", s.machine.write(Session.packed("))", 0)), false);
        Session.due("write of 1 with room for 1", s.machine.write(')'), true);
        Session.due("compile of 96 characters", s.compile(), 50);
        s.write("(".repeat(96));
        Session.due("compile of 96 brackets", s.compile(), Session.BAD_ARGUMENT);
        Session.due("write behind compile", s.machine.write('1'), true);
        Session.due("compile of 1", s.compile(), 3);
    }
}
