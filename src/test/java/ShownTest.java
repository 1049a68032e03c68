/** Promise 10: shown. */
public final class ShownTest {
    public static void main(String[] args) {
        values();
        lists();
        onlyInState2();
        noSuchCharacter();
        cutOff();
        cutOffInEachForm();
        deepHeads();
        deeperThanTheLineIsLong();
        Session.end();
    }

    private static void values() {
        Session s = new Session(60);
        s.results("0", "0");
        s.results("-0", "0");
        s.results("-9999", "-9999");
        s.results("'a", "a");
        s.results("'z", "z");
        s.results("'()", "()");
        s.results("(\\ (x) x)", "#");
        Session.due("shown(-1)", s.machine.shown(-1), -1);
        Session.due("shown(0)", s.machine.shown(0), '#');
        Session.due("shown(1)", s.machine.shown(1), -1);
        Session.due("shown of the least int", s.machine.shown(Integer.MIN_VALUE), -1);
        Session.due("shown of the largest int", s.machine.shown(Integer.MAX_VALUE), -1);
    }

    private static void lists() {
        Session s = new Session(120);
        s.results("'(1)", "(1)");
        s.results("'(a (1 -2) () b)", "(a (1 -2) () b)");
        s.results("'((()))", "((()))");
        s.results("'((a) b (c (d)))", "((a) b (c (d)))");
        s.results("(. 1 2)", "(1 . 2)");
        s.results("(. 1 (. 2 3))", "(1 2 . 3)");
        s.results("(. (. 1 2) 3)", "((1 . 2) . 3)");
        s.results("(. 'a '(b))", "(a b)");
        s.results("(. '() '())", "(())");
        s.results("(. (\\ () 1) (\\ () 2))", "(# . #)");
        s.results("(. (. 1 'x) (. '() (. (\\ () 1) -7)))", "((1 . x) () # . -7)");
    }

    /** "NONE if the state is not 2". */
    private static void onlyInState2() {
        Session s = new Session(20);
        Session.due("shown of a new object", s.machine.shown(0), -1);
        s.load("12");
        Session.due("shown behind compile", s.machine.shown(0), -1);
        s.machine.start();
        s.run(1);
        Session.due("shown while it is running", s.machine.shown(0), -1);
        s.run(1);
        Session.due("shown at the end", s.shown(), "12");
        s.machine.start();
        Session.due("shown behind start", s.machine.shown(0), -1);
        s.run(2);
        s.fails("(", 1);
        Session.due("shown behind what threw", s.shown(), "12");
        s.ends("(^ 1)", 3, 2);
        Session.due("shown in state 3", s.machine.shown(0), -1);
        s.ends("((\\ () (1 2 3)))", 4, 2);
        Session.due("shown in state 4", s.machine.shown(0), -1);
    }

    /** "Or there is none". */
    private static void noSuchCharacter() {
        String[] programs = {"7", "-12", "'()", "'(a b)"};
        int[] lengths = {1, 3, 2, 5};
        for (int k = 0; k < programs.length; k++) {
            Session s = new Session(20);
            s.ends(programs[k], 2, 2);
            int[] none = {Integer.MIN_VALUE, -1, lengths[k], lengths[k] + 1, 119, 120, 121, Integer.MAX_VALUE};
            for (int at : none) {
                Session.due("shown(" + at + ") of " + programs[k], s.machine.shown(at), -1);
            }
            Session.due("the first of " + programs[k], s.machine.shown(0) > 0, true);
            Session.due("the last of " + programs[k], s.machine.shown(lengths[k] - 1) > 0, true);
        }
    }

    /** "120 characters at most, what is behind is cut off". */
    private static void cutOff() {
        // 115 characters, then what is in the last brackets.
        String start = "(" + "-9999 ".repeat(19);
        showsBehind(start, "1 2", "1 2)");
        showsBehind(start, "1 22", "1 22)");
        showsBehind(start, "1 223", "1 223");
        showsBehind(start, "1 2 3 4", "1 2 3");
        showsBehind(start, "1 (2)", "1 (2)");
        showsBehind(start, "1 -999", "1 -99");
        showsBehind(start, "1 22 3", "1 22 ");
        showsBehind(start, "1 a ()", "1 a (");
    }

    private static void showsBehind(String start, String last, String shown) {
        Session s = new Session(250);
        s.results("(; (f 19 '(" + last + ")) (f (\\ (n l) (? n (f (- n 1) (. -9999 l)) l))))", start + shown);
        Session.due("shown(120)", s.machine.shown(120), -1);
        Session.due("shown(121)", s.machine.shown(121), -1);
    }

    /** The end at every place of a pair, be its tail a list or not. */
    private static void cutOffInEachForm() {
        for (int digits = 2; digits <= 8; digits++) {
            showsBehindDigits(digits, "(. 'a 'b)", "(a . b)");
            showsBehindDigits(digits, "(. 1 -7)", "(1 . -7)");
            showsBehindDigits(digits, "'(a 12)", "(a 12)");
            showsBehindDigits(digits, "(. '() f)", "(() . #)");
        }
    }

    /** Shows 109 characters, two numbers that have so many digits together, and then a pair. */
    private static void showsBehindDigits(int digits, String pair, String shown) {
        String first = "1234".substring(0, digits / 2);
        String second = "5678".substring(0, digits - digits / 2);
        Session s = new Session(250);
        s.load("(; (f 18 (. " + first + " (. " + second + " (. " + pair + " '()))))"
                + " (f (\\ (n l) (? n (f (- n 1) (. -9999 l)) l))))");
        s.machine.start();
        s.finish();
        String all = "(" + "-9999 ".repeat(18) + first + " " + second + " " + shown + ")";
        Session.due("state behind " + pair, s.machine.state(), 2);
        Session.due("result with " + pair, s.shown(), all.substring(0, Math.min(120, all.length())));
    }

    private static void deepHeads() {
        Session s = new Session(250);
        s.results("(; (f 20 'a) (f (\\ (n l) (? n (f (- n 1) (. l '())) l))))",
                "(".repeat(20) + "a" + ")".repeat(20));
        s.results("(; (f 20 'a) (f (\\ (n l) (? n (f (- n 1) (. l n)) l))))", deepPairs(20).substring(0, 120));
        s.results("(; (f 15 'a) (f (\\ (n l) (? n (f (- n 1) (. l n)) l))))", deepPairs(15));
    }

    /** A function that is called 125 times over: each time a pair with what was there as its head. */
    private static void deeperThanTheLineIsLong() {
        String calls = "(: ((d (d (d f))) 1) (d (\\ (f) (\\ (x) (f (f (f (f (f x)))))))) (f (\\ (x) (. x 2))))";
        new Session(250).results(calls, "(".repeat(120));
        String fewer = calls.replace("(d (d (d f)))", "(d (d f))");
        new Session(250).results(fewer, deepTwos(25).substring(0, 120));
        new Session(250).results(fewer.replace("(. x 2)", "(. x x)"), tree(25));
    }

    private static String deepTwos(int n) {
        return "(".repeat(n) + "1" + " . 2)".repeat(n);
    }

    /** The first 120 characters of pairs that are head and tail of the next, so many deep. */
    private static String tree(int depth) {
        String part = "(1 . 1)";
        for (int k = 2; k <= depth; k++) {
            // A tail that is a pair goes on with the list. What is cut off here comes behind the 120 too.
            String next = "(" + part + " " + part.substring(1);
            part = next.substring(0, Math.min(200, next.length()));
        }
        return part.substring(0, 120);
    }

    private static String deepPairs(int n) {
        StringBuilder line = new StringBuilder("(".repeat(n)).append('a');
        for (int k = n; k >= 1; k--) {
            line.append(" . ").append(k).append(')');
        }
        return line.toString();
    }
}
