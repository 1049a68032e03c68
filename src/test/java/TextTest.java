/** Terms, THE TEXT: what a program is, and which letters are known where. Where errors are: ErrorPlaceTest. */
public final class TextTest {
    /** An expression of each form. */
    private static final String[] FORMS = {
        "7", "-7", "'a", "'()", "'(1 (b))", "(+ 1 2)", "(- 1 2)", "(* 1 2)", "(= 1 2)", "(< 1 2)", "(. 1 2)",
        "(^ 1)", "(_ 1)", "(! 1)", "(? 1 2 3)", "(\\ () 1)", "(\\ (x y z) 1)", "(: 1 (x 2))",
        "(; 1 (x (\\ () 2)))", "(1)", "(-1)", "(1 2 3 4)",
    };

    public static void main(String[] args) {
        characters();
        length();
        numbers();
        variables();
        data();
        partsOfEveryForm();
        oneBlankBetweenTheParts();
        parameterLists();
        bindings();
        calls();
        bodiesKnowTheirParameters();
        firstOnesKnowTheBindings();
        whatIsBoundInAFrameKnowsIt();
        whatIsBoundKnowsNothingNew();
        allThatIsKnownAround();
        Session.end();
    }

    /** "With codes 32 .. 126." */
    private static void characters() {
        for (int code = 1; code <= 255; code++) {
            Session s = new Session(20);
            boolean isCharacter = code >= 32 && code <= 126;
            Session.due("write of " + code, s.machine.write(code), isCharacter);
            s.write("7");
            boolean isProgram = !isCharacter || code == '-' || code == '\'' || code >= '0' && code <= '9';
            Session.due("whether " + code + " and 7 are a program", s.compile() >= 0, isProgram);
        }
    }

    /** "THE TEXT has at most 96 characters". */
    private static void length() {
        Session s = new Session(250);
        s.write("'(" + "a ".repeat(46) + "b");
        Session.due("write of the 96th character", s.machine.write(')'), true);
        Session.due("write of a 97th character", s.machine.write(')'), false);
        Session.due("compile of 96 characters", s.compile(), 50);
        s.machine.start();
        s.finish();
        Session.due("result of 96 characters", s.shown(), "(" + "a ".repeat(46) + "b)");
    }

    /** "A number (perhaps -, then 1 to 4 digits)". */
    private static void numbers() {
        for (int number = -9999; number <= 9999; number += 101) {
            Session s = new Session(20);
            s.results("" + number, "" + number);
            s.results("'" + number, "" + number);
            s.results("'(" + number + ")", "(" + number + ")");
        }
        Session s = new Session(20);
        s.results("0000", "0");
        s.results("-0000", "0");
        s.results("0099", "99");
        s.fails("00000", 4);
        s.fails("-00000", 5);
        s.fails("-", 1);
        s.fails("+1", 0);
    }

    /** "A variable (a letter a .. z)". */
    private static void variables() {
        for (char letter = 'a'; letter <= 'z'; letter++) {
            Session s = new Session(60);
            s.results("((\\ (" + letter + ") " + letter + ") 5)", "5");
            s.results("(: " + letter + " (" + letter + " 6))", "6");
            s.results("(; (" + letter + ") (" + letter + " (\\ () 7)))", "7");
        }
        char[] none = {'A', 'Z', '`', '{', '_', '@', '['};
        for (char sign : none) {
            Session s = new Session(60);
            s.fails("" + sign, 0);
            s.fails("(\\ (" + sign + ") 1)", 4);
            s.fails("(: 1 (" + sign + " 1))", 6);
            s.fails("'" + sign, 1);
        }
    }

    /** "' and a DATUM (a number; a letter, that symbol; or data with a blank between each two in brackets, perhaps none)". */
    private static void data() {
        String[] data = {"1", "-1", "a", "()", "(1)", "(a b)", "(())", "(() ())", "(a (b (c)) -4 ((5)))"};
        for (String datum : data) {
            new Session(60).results("'" + datum, datum);
            new Session(60).results("'(" + datum + " " + datum + ")", "(" + datum + " " + datum + ")");
        }
        Session s = new Session(60);
        s.fails("'(+ 1 2)", 2);
        s.fails("'(a . b)", 4);
        s.fails("'('a)", 2);
        s.fails("'(a  b)", 4);
    }

    /** "Or one of these in brackets": every part may be an expression of every form. */
    private static void partsOfEveryForm() {
        String[] around = {
            "(+ # 1)", "(+ 1 #)", "(- # 1)", "(- 1 #)", "(* # 1)", "(* 1 #)", "(= # 1)", "(= 1 #)", "(< # 1)",
            "(< 1 #)", "(. # 1)", "(. 1 #)", "(^ #)", "(_ #)", "(! #)", "(? # 1 2)", "(? 1 # 2)", "(? 1 2 #)",
            "(\\ () #)", "(: # (x 1))", "(: 1 (x #))", "(: 1 (x 2) (y #))", "(; # (x (\\ () 1)))",
            "(; 1 (x (\\ () #)))", "(#)", "(# 1)", "(1 #)", "(1 2 #)", "(1 2 3 #)",
        };
        for (String text : around) {
            Session s = new Session(120);
            for (String form : FORMS) {
                s.load(text.replace("#", form));
            }
            Session t = new Session(120);
            t.fails(text.replace("#", ""), text.indexOf('#'));
            t.fails(text.replace("#", "1 "), text.indexOf('#') + (canGoOnBehind1(text) ? 2 : 1));
        }
    }

    /** Whether a blank may stand behind 1 in place of the part that is asked for. */
    private static boolean canGoOnBehind1(String text) {
        boolean isFollowed = text.charAt(text.indexOf('#') + 1) == ' ';
        return isFollowed || text.equals("(#)") || text.equals("(1 #)") || text.equals("(1 2 #)");
    }

    /** "With one blank between the parts". */
    private static void oneBlankBetweenTheParts() {
        String[] texts = {
            "(+ 'b -345)", "(- 'b -2)", "(? (! 1) (. 'a '()) '(a -2 b))", "(\\ (x y z) (x y z))",
            "(: (= x y) (x 'b) (y (-5 x 'c)))", "(; (f) (f (\\ () 1)) (g (\\ (a b) 'c)))",
        };
        for (String text : texts) {
            for (int at = text.indexOf(' '); at >= 0; at = text.indexOf(' ', at + 1)) {
                new Session(120).fails(text.substring(0, at) + " " + text.substring(at), at + 1);
                new Session(120).fails(text.substring(0, at) + text.substring(at + 1), at);
            }
        }
    }

    /** "\ with a PARAMETER LIST (0 to 3 different letters in brackets, a blank between each two) and an expression". */
    private static void parameterLists() {
        Session s = new Session(60);
        s.compiles("(\\ () 1)", 6);
        s.compiles("(\\ (a) 1)", 6);
        s.compiles("(\\ (b a) 1)", 6);
        s.compiles("(\\ (z a m) 1)", 6);
        s.fails("(\\ (z a m n) 1)", 9);
        s.fails("(\\ (z a z) 1)", 8);
        s.fails("(\\ (z z) 1)", 6);
        s.fails("(\\ z 1)", 3);
        s.fails("(\\ 1)", 3);
        s.fails("(\\ (z))", 6);
        s.fails("(\\ (z) 1 2)", 8);
    }

    /** "1 to 3 BINDINGS (..), all letters different; ; likewise, but each binding's expression is one with \". */
    private static void bindings() {
        Session s = new Session(120);
        s.load("(: 1 (a 2))");
        s.load("(: 1 (a 2) (b 3))");
        s.load("(: 1 (a 2) (b 3) (c 4))");
        s.fails("(: 1 (a 2) (b 3) (c 4) (d 5))", 22);
        s.fails("(: 1)", 4);
        s.fails("(: 1 (a 2) (a 3))", 12);
        s.load("(; 1 (a (\\ () 2)))");
        s.load("(; 1 (a (\\ () 2)) (b (\\ () 3)))");
        s.load("(; 1 (a (\\ () 2)) (b (\\ () 3)) (c (\\ () 4)))");
        s.fails("(; 1 (a (\\ () 2)) (b (\\ () 3)) (c (\\ () 4)) (d (\\ () 5)))", 43);
        s.fails("(; 1)", 4);
        s.fails("(; 1 (a (\\ () 2)) (a (\\ () 3)))", 19);
        for (String form : FORMS) {
            int same = form.startsWith("(") ? form.startsWith("(\\") ? -1 : 9 : 8;
            if (same >= 0) {
                new Session(120).fails("(; 1 (a " + form + "))", same);
            }
        }
    }

    /** "A CALL, an expression (which may be a number below 0: - with a digit behind it is no sign) and 0 to 3 more." */
    private static void calls() {
        Session s = new Session(120);
        s.compiles("(-5)", 6);
        s.compiles("(-5 1)", 9);
        s.compiles("(-5 1 2 3)", 15);
        s.fails("(-5 1 2 3 4)", 9);
        s.compiles("(- 5 1)", 6);
        s.fails("(- 5)", 4);
        s.fails("(-)", 2);
        s.fails("(-a 1)", 2);
        s.fails("(--5 1)", 2);
        s.fails("()", 1);
        s.fails("(+5 1)", 2);
        s.ends("(-5 1)", 3, 5);
    }

    /** "The second one of \ knows its parameters". */
    private static void bodiesKnowTheirParameters() {
        Session s = new Session(120);
        s.results("((\\ (x) x) 5)", "5");
        s.results("((\\ (x y z) (. x (. y z))) 1 2 3)", "(1 2 . 3)");
        s.fails("((\\ (x) x) x)", 11);
        s.fails("(\\ () x)", 6);
        s.fails("(\\ (y) x)", 7);
        s.fails("(+ ((\\ (x) x) 1) x)", 17);
        s.fails("(. ((\\ (x) x) 1) (\\ (y) x))", 24);
    }

    /** "The first one of : and ; the letters of its bindings". */
    private static void firstOnesKnowTheBindings() {
        Session s = new Session(120);
        s.results("(: (. x (. y z)) (x 1) (y 2) (z 3))", "(1 2 . 3)");
        s.results("(; (. (x) (. (y) (z))) (x (\\ () 1)) (y (\\ () 2)) (z (\\ () 3)))", "(1 2 . 3)");
        s.fails("(: x (y 1))", 3);
        s.fails("(; x (y (\\ () 1)))", 3);
        s.fails("(+ (: x (x 1)) x)", 15);
        s.fails("(+ (; (f) (f (\\ () 1))) f)", 24);
    }

    /** "The expressions bound by ; too". */
    private static void whatIsBoundInAFrameKnowsIt() {
        Session s = new Session(120);
        s.results("(; (x) (x (\\ () (y))) (y (\\ () (z))) (z (\\ () 'd)))", "d");
        s.results("(; (z) (x (\\ () 'd)) (y (\\ () (x))) (z (\\ () (y))))", "d");
        s.load("(; 1 (x (\\ () x)))");
        s.fails("(; 1 (x (\\ () y)))", 14);
        s.fails("(. (; 1 (f (\\ () f))) f)", 22);
    }

    /** "Those bound by : not". */
    private static void whatIsBoundKnowsNothingNew() {
        Session s = new Session(120);
        s.fails("(: x (x x))", 8);
        s.fails("(: y (x 1) (y x))", 14);
        s.fails("(: y (x y) (y 1))", 8);
        s.fails("(: 1 (x (\\ () x)))", 14);
        s.results("(: (: (. x y) (x y) (y x)) (x 1) (y 2))", "(2 . 1)");
        s.results("(: (: (+ x y) (x (* x 10))) (x 1) (y 2))", "12");
    }

    /** "Beside all that is known around." */
    private static void allThatIsKnownAround() {
        Session s = new Session(250);
        s.results("(((\\ (a b c) (\\ (d e) (. a (. b (. c (. d e)))))) 1 2 3) 4 5)", "(1 2 3 4 . 5)");
        s.results("((\\ (x) ((\\ (x) x) (+ x 1))) 5)", "6");
        s.results("((\\ (x) ((\\ () x))) 5)", "5");
        s.results("((\\ (x) (; (f x) (f (\\ (n) (. x n))))) 3)", "(3 . 3)");
        s.results("(; (f 1) (f (\\ (f) f)))", "1");
        s.results("(: (; (f y) (f (\\ (x) (g (+ x y)))) (g (\\ (x) (* x y)))) (y 3))", "18");
        s.results("((\\ (y) (+ (: x (x 1)) y)) 5)", "6");
        s.results("((\\ (y) (+ (; (f) (f (\\ () 1))) y)) 5)", "6");
        s.results("((\\ (y) (: (. x y) (x y))) 5)", "(5 . 5)");
        s.results("((\\ (y) (+ ((\\ (x) x) 1) y)) 5)", "6");
    }
}
