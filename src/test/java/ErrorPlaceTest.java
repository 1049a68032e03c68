/** Terms, THE TEXT: where the error is, by rules that hold for every program. */
public final class ErrorPlaceTest {
    private static final String[] PROGRAMS = {
        "(+ 12 -345)",
        "'(a (1 -2345) () ((b)))",
        "(? (< n 1) (. 'a '()) (* n (f (- n 1))))",
        "(^ (_ (! '(1 2))))",
        "(\\ () (\\ (x) (\\ (x y) (\\ (x y z) 1))))",
        "(: (= x y) (x 'b) (y (-5 1 2 3)) (z ((f) a)))",
        "(; (f) (f (\\ () 1)) (g (\\ (a) a)) (h (\\ (a b) 'c)))",
        "(: (: x (x x)) (x (; x (x (\\ (x) x)))))",
    };

    // Brackets of every kind, each as the deepest one.
    private static final String[] DEEP = {
        "(1)", "(+ 1 2)", "(^ 1)", "(? 1 2 3)", "(-1 2)", "('a)", "((1) 2)", "(1 (2))", "(1 2 3 (4))",
        "(+ (1) 2)", "(+ 1 (2))", "(? 1 2 (3))", "(\\ () 1)", "(\\ (x y) x)", "(\\ (x) (1))",
        "(: 1 (x 2))", "(: 1 (x 2) (y 3))", "(: (1) (x 2))", "(: 1 (x (2)))",
        "(; 1 (x (\\ () 2)))", "(; 1 (x (\\ (y) 2)))", "(; 1 (x (\\ () (2))))",
        "'()", "'(1)", "'(1 (2))", "'(1 (2 ()))", "('(1))", "(+ 1 '(1))",
    };

    public static void main(String[] args) {
        somethingIsMissing();
        whatNoProgramHas();
        nothingBehindTheProgram();
        depthOfEachKind();
        bracketsThatMustCome();
        digits();
        lettersThatStandTwice();
        lettersThatMayStandTwice();
        howManyParts();
        unknownBehindErrors();
        firstUnknown();
        Session.end();
    }

    /** "The length if only something is missing". */
    private static void somethingIsMissing() {
        for (String program : PROGRAMS) {
            for (int length = 0; length < program.length(); length++) {
                new Session(250).fails(program.substring(0, length), length);
            }
        }
    }

    /** "At the first position that no program has that begins as the text does up to there". */
    private static void whatNoProgramHas() {
        char[] never = {'~', 'A', '"', '/', '>', ','};
        for (String program : PROGRAMS) {
            for (int at = 0; at < program.length(); at++) {
                char wrong = never[at % never.length];
                new Session(250).fails(program.substring(0, at) + wrong + program.substring(at + 1), at);
                new Session(250).fails(program.substring(0, at) + wrong + program.substring(at), at);
            }
        }
    }

    private static void nothingBehindTheProgram() {
        String[] more = {" ", ")", "1", "a", "'", "("};
        for (String program : PROGRAMS) {
            for (String behind : more) {
                new Session(250).fails(program + behind, program.length());
            }
        }
    }

    /** "Brackets are at most 9 deep in one another, also those of data, parameter lists and bindings". */
    private static void depthOfEachKind() {
        for (String text : DEEP) {
            int place = firstOfTheDeepest(text);
            int around = 9 - depthAt(text, place);
            Session s = new Session(250);
            s.load(within(text, around));
            s.fails(within(text, around + 1), 3 * (around + 1) + place);
        }
    }

    private static int firstOfTheDeepest(String text) {
        int first = 0;
        for (int at = 0; at < text.length(); at++) {
            if (depthAt(text, at) > depthAt(text, first)) {
                first = at;
            }
        }
        return first;
    }

    /** How many brackets stand open behind a position. */
    private static int depthAt(String text, int at) {
        int depth = 0;
        for (char sign : text.substring(0, at + 1).toCharArray()) {
            depth += sign == '(' ? 1 : sign == ')' ? -1 : 0;
        }
        return depth;
    }

    private static String within(String text, int brackets) {
        return "(! ".repeat(brackets) + text + ")".repeat(brackets);
    }

    /** "A bracket that is too deep, also where one must come": that place, whatever stands there. */
    private static void bracketsThatMustCome() {
        String[] there = {"", "(", "(x", ")", "x", "1", " ", "'"};
        for (String text : there) {
            new Session(250).fails("(! ".repeat(8) + "(\\ " + text, 24 + 3);
            new Session(250).fails("(! ".repeat(8) + "(: 1 " + text, 24 + 5);
            new Session(250).fails("(! ".repeat(8) + "(; 1 " + text, 24 + 5);
            new Session(250).fails("(! ".repeat(7) + "(; 1 (x " + text, 21 + 8);
            new Session(250).fails("(! ".repeat(6) + "(; 1 (x (\\ " + text, 18 + 11);
        }
    }

    /** "Perhaps -, then 1 to 4 digits", wherever a number may stand. */
    private static void digits() {
        String[] before = {"", "'", "'(", "'(a ", "(", "(1 ", "(+ ", "(\\ () ", "(: ", "(: 1 (x "};
        String[] behind = {"", "", ")", ")", ")", ")", " 1)", ")", " (x 1))", "))"};
        for (int k = 0; k < before.length; k++) {
            int at = before[k].length();
            Session s = new Session(60);
            s.load(before[k] + "1" + behind[k]);
            s.load(before[k] + "-1" + behind[k]);
            s.load(before[k] + "0000" + behind[k]);
            s.load(before[k] + "9999" + behind[k]);
            s.load(before[k] + "-9999" + behind[k]);
            s.fails(before[k] + "99999" + behind[k], at + 4);
            s.fails(before[k] + "00000" + behind[k], at + 4);
            s.fails(before[k] + "-99999" + behind[k], at + 5);
            s.fails(before[k] + "--1" + behind[k], at + 1);
            s.fails(before[k] + "1-1" + behind[k], at + 1);
            s.fails(before[k] + "-", at + 1);
        }
    }

    /** "A letter that stands twice where they must differ". */
    private static void lettersThatStandTwice() {
        Session s = new Session(250);
        s.fails("(\\ (a a) 1)", 6);
        s.fails("(\\ (a a", 6);
        s.fails("(\\ (z y z) 1)", 8);
        s.fails("(\\ (z y y) 1)", 8);
        s.fails("(: 1 (a 2) (a 3))", 12);
        s.fails("(: 1 (a 2) (a", 12);
        s.fails("(: 1 (a 2) (b 3) (a 4))", 18);
        s.fails("(: 1 (a 2) (b 3) (b 4))", 18);
        s.fails("(; 1 (a (\\ () 2)) (a (\\ () 3)))", 19);
        s.fails("(; 1 (a (\\ () 2)) (b (\\ () 3)) (a (\\ () 4)))", 32);
        s.fails("(; 1 (a (\\ () 2)) (b (\\ () 3)) (b (\\ () 4)))", 32);
    }

    private static void lettersThatMayStandTwice() {
        Session s = new Session(250);
        s.load("(\\ (a) (\\ (a) a))");
        s.load("(: (: a (a 1)) (a 2))");
        s.load("(: a (a (: a (a 1))) (b (: a (a 1))))");
        s.load("(; a (a (\\ (a) a)) (b (\\ (a b) a)))");
        s.load("(. (\\ (a) a) (\\ (a) a))");
        s.load("'(a a (a a) a)");
        s.load("(\\ (a) (a a a a))");
    }

    private static void howManyParts() {
        Session s = new Session(250);
        s.load("(1)");
        s.load("(1 2 3 4)");
        s.fails("(1 2 3 4 5)", 8);
        s.fails("(1 2 3 4 ", 8);
        s.load("(\\ (a b c) 1)");
        s.fails("(\\ (a b c d) 1)", 9);
        s.fails("(: 1)", 4);
        s.load("(: 1 (a 1) (b 2) (c 3))");
        s.fails("(: 1 (a 1) (b 2) (c 3) (d 4))", 22);
        s.fails("(; 1)", 4);
        s.load("(; 1 (a (\\ () 1)) (b (\\ () 1)) (c (\\ () 1)))");
        s.fails("(; 1 (a (\\ () 1)) (b (\\ () 1)) (c (\\ () 1)) (d (\\ () 1)))", 43);
    }

    /** "Variables need not be known for that". */
    private static void unknownBehindErrors() {
        Session s = new Session(250);
        s.fails("(a b c d e)", 8);
        s.fails("(+ x y", 6);
        s.fails("(\\ (x x) y)", 6);
        s.fails("x ", 1);
        s.fails("(x 12345)", 7);
        s.fails("(! ".repeat(8) + "(x (y))" + ")".repeat(8), 27);
    }

    /** "If it is a program, but a variable is not known where it stands, the first such place". */
    private static void firstUnknown() {
        Session s = new Session(250);
        s.fails("a", 0);
        s.fails("z", 0);
        s.fails("(. a b)", 3);
        s.fails("(a b c d)", 1);
        s.fails("(1 b c d)", 3);
        s.fails("(? 1 b c)", 5);
        s.fails("(\\ (x) y)", 7);
        s.fails("(\\ () x)", 6);
        s.fails("((\\ (x) x) x)", 11);
        s.fails("(: 1 (x x))", 8);
        s.fails("(: 1 (x 1) (y x))", 14);
        s.fails("(: 1 (x y) (y 1))", 8);
        s.fails("(: a (x b))", 3);
        s.fails("(. (: x (x 1)) x)", 15);
        s.fails("(; a (f (\\ () b)))", 3);
        s.fails("(; f (f (\\ (x) (. x b))))", 20);
        s.fails("(. (; f (f (\\ (x) f))) x)", 23);
        s.load("(; (. f g) (f (\\ () g)) (g (\\ () f)))");
        s.load("(\\ (a) (\\ (b) (: (; (a b c d) (d (\\ () c))) (c b))))");
    }
}
