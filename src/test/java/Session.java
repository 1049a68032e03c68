/**
 * A PairMachine whose answers are compared with those that are due. A test makes a new one before it
 * comes to 512 calls, behind which nothing is promised.
 */
final class Session {
    static final int BAD_ARGUMENT = -101;
    static final int BAD_STATE = -102;

    private static int compared = 0;
    private static int wrong = 0;

    final PairMachine machine;

    Session(int size) {
        machine = new PairMachine(size);
    }

    static void due(String what, long got, long want) {
        compared++;
        if (got != want) {
            wrong++;
            System.out.println(what + " answered " + got + ", due is " + want);
        }
    }

    static void due(String what, String got, String want) {
        compared++;
        if (!got.equals(want)) {
            wrong++;
            System.out.println(what + " answered " + got + ", due is " + want);
        }
    }

    static void due(String what, boolean got, boolean want) {
        due(what, got ? 1 : 0, want ? 1 : 0);
    }

    /** Ends the test, with exit code 1 if an answer was not the one that is due. */
    static void end() {
        System.out.println(compared + " answers compared, " + wrong + " wrong");
        if (wrong != 0 || compared == 0) {
            System.exit(1);
        }
    }

    /** The characters from a position on, up to eight, as write takes them. */
    static long packed(String text, int from) {
        long w = 0;
        for (int k = from; k < text.length() && k < from + 8; k++) {
            w = w << 8 | text.charAt(k);
        }
        return w;
    }

    void write(String text) {
        for (int from = 0; from < text.length(); from += 8) {
            due("write of " + text, machine.write(packed(text, from)), true);
        }
    }

    /** What compile answers, or BAD_ARGUMENT or BAD_STATE if it throws. */
    int compile() {
        try {
            return machine.compile();
        } catch (IllegalArgumentException e) {
            return BAD_ARGUMENT;
        } catch (IllegalStateException e) {
            return BAD_STATE;
        }
    }

    int run(int n) {
        try {
            return machine.run(n);
        } catch (IllegalArgumentException e) {
            return BAD_ARGUMENT;
        }
    }

    void compiles(String text, int cells) {
        write(text);
        due("compile of " + text, compile(), cells);
        due("position behind " + text, machine.position(), PairMachine.NONE);
        due("cells used by " + text, machine.count(0), cells);
    }

    void load(String text) {
        write(text);
        due("whether " + text + " is compiled", compile() >= 0, true);
    }

    void fails(String text, int position) {
        write(text);
        due("compile of " + text, compile(), BAD_ARGUMENT);
        due("position in " + text, machine.position(), position);
    }

    void hasNoRoomFor(String text) {
        write(text);
        due("compile of " + text, compile(), BAD_STATE);
        due("position behind " + text, machine.position(), PairMachine.NONE);
    }

    /** Runs to the end, at most 10,000 steps: how many it were. */
    int finish() {
        int steps = 0;
        for (int k = 0; k < 50 && machine.state() == 1; k++) {
            steps += run(200);
        }
        return steps;
    }

    void ends(String text, int state, int steps) {
        load(text);
        due("start of " + text, machine.start(), true);
        due("steps of " + text, finish(), steps);
        due("state behind " + text, machine.state(), state);
    }

    void results(String text, String shown) {
        load(text);
        due("start of " + text, machine.start(), true);
        finish();
        due("state behind " + text, machine.state(), 2);
        due("result of " + text, shown(), shown);
    }

    String shown() {
        StringBuilder line = new StringBuilder();
        for (int k = 0; k < 200; k++) {
            int code = machine.shown(k);
            if (code == PairMachine.NONE) {
                break;
            }
            line.append((char) code);
        }
        return line.toString();
    }

    /** The instructions that a program runs through, in their order. */
    void traces(String text, String instructions) {
        load(text);
        machine.start();
        StringBuilder line = new StringBuilder();
        for (int k = 0; k < 100 && machine.state() == 1; k++) {
            line.append(k == 0 ? "" : " ").append(machine.next());
            run(1);
        }
        due("instructions of " + text, line.toString(), instructions);
    }

    /** Takes a step, with this instruction, that uses so many cells and leaves so many values on S and D. */
    void steps(int op, int cells, int onS, int onD) {
        int used = machine.count(0);
        due("next", machine.next(), op);
        due("run(1)", run(1), 1);
        due("cells that " + op + " uses", machine.count(0) - used, cells);
        due("values on S behind " + op, machine.count(5), onS);
        due("values on D behind " + op, machine.count(6), onD);
    }

    /** What count answers for 0 .. 6. */
    void counts(String when, int... want) {
        for (int what = 0; what < want.length; what++) {
            due("count(" + what + ") " + when, machine.count(what), want[what]);
        }
    }
}
