/** Promise 2: write. */
public final class WriteTest {
    public static void main(String[] args) {
        bytesFromTheHighestOn();
        zerosAreLeftOut();
        wrongCharacters();
        wrongInEachPlace();
        noMoreThanThereIsRoomFor();
        fullText();
        roomBehindEachCompile();
        Session.end();
    }

    /** "The codes of which are the eight bytes of w from the highest on". */
    private static void bytesFromTheHighestOn() {
        Session s = new Session(60);
        Session.due("write", s.machine.write(0x2827616263646566L), true);
        Session.due("compile of ('abcdef", s.compile(), Session.BAD_ARGUMENT);
        Session.due("position", s.machine.position(), 3);
        Session.due("write", s.machine.write(0x272831203220332DL), true);
        Session.due("write", s.machine.write(0x3429L), true);
        Session.due("compile of '(1 2 3-4)", s.compile(), Session.BAD_ARGUMENT);
        Session.due("position", s.machine.position(), 7);
        s.results("'(1 22 333 4444 -5)", "(1 22 333 4444 -5)");
    }

    /** "But for those that are 0: true". */
    private static void zerosAreLeftOut() {
        Session s = new Session(60);
        Session.due("write of '", s.machine.write(0x0027000000000000L), true);
        Session.due("write of nothing", s.machine.write(0L), true);
        Session.due("write of (ab)", s.machine.write(0x2800610020006229L), true);
        Session.due("compile", s.compile(), 5);
        s.machine.start();
        s.finish();
        Session.due("result", s.shown(), "(a b)");
    }

    /** "False, changing nothing, if one of the others is not 32 .. 126". */
    private static void wrongCharacters() {
        Session s = new Session(60);
        s.write("'(1");
        int[] wrong = {1, 9, 10, 31, 127, 128, 160, 255};
        for (int code : wrong) {
            Session.due("write of " + code, s.machine.write(code), false);
            Session.due("write of 2 and " + code, s.machine.write(0x32L << 56 | code), false);
            Session.due("write of " + code + " and 2", s.machine.write((long) code << 56 | 0x32), false);
        }
        s.write(")");
        Session.due("compile of '(1)", s.compile(), 4);
        int[] ends = {32, 126};
        for (int code : ends) {
            Session.due("write of " + code, s.machine.write(code), true);
            Session.due("compile of " + code, s.compile(), Session.BAD_ARGUMENT);
            Session.due("position of " + code, s.machine.position(), 0);
        }
    }

    /** The same for each of the eight bytes, with good characters in the other seven. */
    private static void wrongInEachPlace() {
        int[] wrong = {1, 31, 127, 128, 255};
        for (int code : wrong) {
            Session s = new Session(60);
            s.write("'(a b");
            for (int shift = 0; shift < 64; shift += 8) {
                long w = Session.packed("        ", 0) & ~(255L << shift) | (long) code << shift;
                Session.due("write of " + code + " at bit " + shift, s.machine.write(w), false);
            }
            s.write(")");
            Session.due("compile of '(a b)", s.compile(), 5);
        }
    }

    /** "Or they are more than there is room for". */
    private static void noMoreThanThereIsRoomFor() {
        Session s = new Session(200);
        s.write("'(" + "1 ".repeat(44) + "1");
        Session.due("write of 6 with room for 5", s.machine.write(Session.packed(" 2 2 2", 0)), false);
        s.write(" 2 3)");
        Session.due("write of 1 with no room", s.machine.write('x'), false);
        Session.due("write of nothing with no room", s.machine.write(0L), true);
        Session.due("compile of 96 characters", s.compile(), 50);
        s.write("'(" + "1 ".repeat(46) + "1");
        Session.due("write of 2 with room for 1", s.machine.write(Session.packed("))", 0)), false);
        Session.due("write of 1 with room for 1", s.machine.write(')'), true);
        Session.due("compile of 96 characters", s.compile(), 50);
        s.write("(".repeat(96));
        Session.due("compile of 96 brackets", s.compile(), Session.BAD_ARGUMENT);
        Session.due("write behind compile", s.machine.write('1'), true);
        Session.due("compile of 1", s.compile(), 3);
    }

    /** "At most 96 characters", whatever number of characters the last write has. */
    private static void fullText() {
        String list = "'(" + "1 ".repeat(46) + "1)";
        for (int last = 1; last <= 8; last++) {
            Session s = new Session(60);
            s.write(list.substring(0, 96 - last));
            String more = list.substring(96 - last) + " ";
            if (last < 8) {
                Session.due("write of " + (last + 1) + " with room for " + last,
                        s.machine.write(Session.packed(more, 0)), false);
            }
            Session.due("write of " + last + " with room for as many",
                    s.machine.write(Session.packed(list, 96 - last)), true);
            Session.due("write of a blank with no room", s.machine.write(' '), false);
            Session.due("write of a wrong character with no room", s.machine.write(7), false);
            Session.due("write of nothing with no room", s.machine.write(0L), true);
            Session.due("compile of 96 characters", s.compile(), 50);
        }
    }

    /** A text that is taken leaves room for 96 characters, "whatever comes of it". */
    private static void roomBehindEachCompile() {
        String list = "'(" + "1 ".repeat(46) + "1)";
        String unended = "'(" + "1 ".repeat(44) + "12";
        Session s = new Session(60);
        s.compiles(list, 50);
        s.fails(list.replace(')', '('), 95);
        s.fails("(. x " + list.substring(0, 89) + "))", 3);
        s.fails(unended, unended.length());
        s.compiles(list, 50);
        Session t = new Session(20);
        t.hasNoRoomFor(list);
        t.hasNoRoomFor(list);
        t.fails(list.replace(')', '~'), 95);
        t.hasNoRoomFor(list);
    }
}
