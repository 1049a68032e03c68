/** Terms, VALUES: their kinds and their cells. */
public final class ValueTest {
    /** An expression for each kind of value, and how it is shown. */
    private static final String[] KINDS = {"7", "-7", "'a", "'()", "(. 1 2)", "'(b)", "(\\ () 1)"};
    private static final String[] SHOWN = {"7", "-7", "a", "()", "(1 . 2)", "(b)", "#"};

    public static void main(String[] args) {
        symbols();
        kindsDiffer();
        headsAndTails();
        cellsOfValues();
        freeOrUsed();
        Session.end();
    }

    /** "SYMBOLS (a .. z)". */
    private static void symbols() {
        for (char letter = 'a'; letter <= 'z'; letter++) {
            Session s = new Session(20);
            s.results("'" + letter, "" + letter);
            s.results("'(" + letter + ")", "(" + letter + ")");
            for (char other = 'a'; other <= 'z'; other++) {
                Session t = new Session(20);
                t.results("(= '" + letter + " '" + other + ")", letter == other ? "1" : "0");
            }
        }
    }

    /** "VALUES are INTS, SYMBOLS, NIL, PAIRS and FUNCTIONS": what is one kind is none of the others. */
    private static void kindsDiffer() {
        endsFor("(+ 0 ", ")", "2 2 3 3 3 3 3");
        endsFor("(^ ", ")", "3 3 3 3 2 2 3");
        endsFor("(", ")", "3 3 3 3 3 3 2");
        Session s = new Session(60);
        int[] isNoPair = {1, 1, 1, 1, 0, 0, 1};
        for (int k = 0; k < KINDS.length; k++) {
            s.results("(! " + KINDS[k] + ")", "" + isNoPair[k]);
        }
        s.results("(= '() 0)", "0");
        s.results("(= 'a 97)", "0");
        s.results("(= '() 'a)", "0");
        s.results("(= '() (\\ () 1))", "0");
    }

    private static void endsFor(String before, String behind, String states) {
        StringBuilder got = new StringBuilder();
        for (String kind : KINDS) {
            Session s = new Session(60);
            s.load(before + kind + behind);
            s.machine.start();
            s.finish();
            got.append(got.length() == 0 ? "" : " ").append(s.machine.state());
        }
        Session.due("states behind " + before + ".." + behind, got.toString(), states);
    }

    /** "With a HEAD and a TAIL, which are values": of any kind. */
    private static void headsAndTails() {
        for (int head = 0; head < KINDS.length; head++) {
            for (int tail = 0; tail < KINDS.length; tail++) {
                String pair = "(. " + KINDS[head] + " " + KINDS[tail] + ")";
                Session s = new Session(60);
                s.results("(^ " + pair + ")", SHOWN[head]);
                s.results("(_ " + pair + ")", SHOWN[tail]);
            }
        }
    }

    /** "The last two each a CELL of the store": the others are none. */
    private static void cellsOfValues() {
        holds("7", 0);
        holds("'a", 0);
        holds("'()", 0);
        holds("(. 1 2)", 1);
        holds("(. 'a '())", 1);
        holds("(\\ () 1)", 1);
        holds("(. (. 1 2) 3)", 2);
        holds("(. (\\ () 1) (\\ () 2))", 3);
        holds("(: (. x x) (x (. 1 2)))", 2);
        // Data are cells of the code already.
        holds("'(1 2 (3))", 0);
        holds("(. 1 '(2 3))", 1);
    }

    /** So many cells are reached at the end beside those of the code and the one that S is. */
    private static void holds(String text, int cells) {
        Session s = new Session(60);
        s.load(text);
        int code = s.machine.count(0);
        s.machine.start();
        s.finish();
        Session.due("cells of the result of " + text, s.machine.count(1), code + 1 + cells);
    }

    /** "There are SIZE cells, each free or USED." */
    private static void freeOrUsed() {
        for (int size = 20; size <= 49; size++) {
            new Session(size).hasNoRoomFor(list(size - 2));
            Session full = new Session(size);
            full.compiles(list(size - 3), size);
            full.machine.start();
            full.run(200);
            full.counts("of " + size + " cells, all of the code", size, size, 1, 0, 1, 0, 0);
            Session.due("state without a free cell", full.machine.state(), 4);
            Session one = new Session(size);
            one.compiles(list(size - 4), size - 1);
            one.machine.start();
            one.run(200);
            one.counts("of " + size + " cells, all but one of the code", size, size, 0, 0, 2, 1, 0);
            Session.due("state with one free cell", one.machine.state(), 2);
        }
    }

    /** A datum with so many parts: its code has three cells more. */
    private static String list(int parts) {
        return "'(1" + " 1".repeat(parts - 1) + ")";
    }
}
