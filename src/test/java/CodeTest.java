/**
 * Terms, THE CODE: how many cells the code of each form has, whatever its parts are, and in what order its
 * instructions come. In a form the letters X, Y, Z stand for its parts.
 */
public final class CodeTest {
    /** Parts that are ints, so that every instruction can take them, with codes that differ. */
    private static final String[] PARTS = {"7", "(! 1)", "(^ '(2))", "(= 1 1)"};
    private static final int[] CELLS = {2, 3, 4, 5};
    private static final String[] TRACES = {"1", "1 12", "1 10", "1 1 14"};

    public static void main(String[] args) {
        aList();
        framesAndPlaces();
        constants();
        variables();
        ofOnePart();
        newPairs();
        ofTwoParts();
        choices();
        functions();
        calls();
        bindings();
        bindingsInTheirFrame();
        theWhole();
        pairsOfTheirOwn();
        whatCompilingMakesFree();
        Session.end();
    }

    /** "THE CODE is a list: pairs whose heads are instructions, ints, and what belongs to them". */
    private static void aList() {
        Session s = new Session(60);
        String[] texts = {"1", "(+ 1 2)", "(? 1 '(2 (3)) (\\ () 4))", "(: x (x 1))", "(; (f) (f (\\ () 1)))"};
        for (String text : texts) {
            s.load(text);
            Session.due("cells of " + text + " that can be reached", s.machine.count(1), s.machine.count(0));
        }
    }

    /** "Known letters are in FRAMES, the innermost 0, each letter with its place from 0 on." */
    private static void framesAndPlaces() {
        String letters = "abcdefgh";
        for (int k = 0; k < letters.length(); k++) {
            new Session(250).results(nested(letters, "" + letters.charAt(k)), "" + (k + 1));
        }
        // The same letter in all frames is the one in the innermost.
        new Session(250).results(nested("aaaaaaaa", "a"), "8");
        new Session(250).results(nested("abababab", "a"), "7");
        String three = "(: (: (: Q (g 7) (h 8) (i 9)) (d 4) (e 5) (f 6)) (a 1) (b 2) (c 3))";
        for (char letter = 'a'; letter <= 'i'; letter++) {
            new Session(250).results(three.replace('Q', letter), "" + (letter - 'a' + 1));
        }
    }

    /** An expression in as many frames as there are letters, the first one outermost, bound to 1, 2, .. */
    private static String nested(String letters, String inside) {
        String text = inside;
        for (int k = letters.length() - 1; k >= 0; k--) {
            text = "(: " + text + " (" + letters.charAt(k) + " " + (k + 1) + "))";
        }
        return text;
    }

    /** "A number, or ' and d: 1, that value." */
    private static void constants() {
        Session s = new Session(60);
        String[] texts = {"0", "-0", "12", "0012", "-9999", "'34", "'-5", "'a", "'()", "'(1 (a) ())"};
        String[] shown = {"0", "0", "12", "12", "-9999", "34", "-5", "a", "()", "(1 (a) ())"};
        int[] cells = {3, 3, 3, 3, 3, 3, 3, 3, 3, 7};
        for (int k = 0; k < texts.length; k++) {
            s.compiles(texts[k], cells[k]);
            s.traces(texts[k], "1 19");
            Session.due("result of " + texts[k], s.shown(), shown[k]);
        }
    }

    /** "A variable in frame i at place j: 2, 16 * i + j." */
    private static void variables() {
        Session s = new Session(60);
        s.compiles("(\\ (x) x)", 6);
        s.compiles("(\\ (x y z) z)", 6);
        s.compiles("(\\ (x) (\\ (y) x))", 9);
        s.traces("((\\ (x) x) 1)", "1 1 13 3 4 2 5 19");
        s.traces("((\\ (x) (x)) (\\ () 1))", "1 3 13 3 4 1 2 4 1 5 5 19");
    }

    /** "^ x: L(x) 10; _ 11; ! 12." */
    private static void ofOnePart() {
        has("(^ X)", 1);
        has("(_ X)", 1);
        has("(! X)", 1);
        runsThrough("(! X)", "X 12");
        runsThrough("(^ (. X 1))", "1 X 13 10");
        runsThrough("(_ (. X 1))", "1 X 13 11");
    }

    /** ". x y: L(y) L(x) 13." */
    private static void newPairs() {
        has("(. X Y)", 1);
        runsThrough("(. X Y)", "Y X 13");
    }

    /** "+ x y: L(x) L(y) 15; - 16; * 17; = 14; < 18." */
    private static void ofTwoParts() {
        String[] signs = {"+", "-", "*", "=", "<"};
        int[] ops = {15, 16, 17, 14, 18};
        for (int k = 0; k < signs.length; k++) {
            has("(" + signs[k] + " X Y)", 1);
            runsThrough("(" + signs[k] + " X Y)", "X Y " + ops[k]);
        }
    }

    /** "? x y z: L(x) 8, L(y) with 9, L(z) with 9." */
    private static void choices() {
        has("(? X Y Z)", 5);
        runsThrough("(? X Y Z)", "X 8 Y 9");
        runsThrough("(? 0 Y Z)", "1 8 Z 9");
        runsThrough("(? (- X X) Y Z)", "X X 16 8 Z 9");
    }

    /** "\: 3, L(body) with 5." */
    private static void functions() {
        has("(\\ () X)", 3);
        has("(\\ (a b c) X)", 3);
        runsThrough("(\\ () X)", "3");
        runsThrough("((\\ () X))", "1 3 4 X 5");
        runsThrough("((\\ (a b) X) 1)", "1 1 13 3 4 X 5");
    }

    /** "A call of f with x, y, ..: 1, NIL, then for the arguments from the last to the first: L, 13; then L(f) 4." */
    private static void calls() {
        has("(X)", 3);
        has("(X Y)", 4);
        has("(X Y Z)", 5);
        has("(7 X Y Z)", 2 + 6);
        runsThrough("((\\ () 7) X Y Z)", "1 Z 13 Y 13 X 13 3 4 1 5");
        runsThrough("((\\ () 7) X Y)", "1 Y 13 X 13 3 4 1 5");
        runsThrough("((? X (\\ () 7) 1) Y)", "1 Y 13 X 8 3 9 4 1 5");
        Session s = new Session(60);
        s.results("((\\ (x y z) (. x (. y z))) 1 2 3)", "(1 2 . 3)");
    }

    /** ": with bindings: likewise for their expressions; then 3, L(first expression) with 5; then 4". */
    private static void bindings() {
        has("(: X (a Y))", 2 + 1 + 3 + 1);
        has("(: X (a Y) (b Z))", 2 + 2 + 3 + 1);
        has("(: 7 (a X) (b Y) (c Z))", 2 + 2 + 3 + 3 + 1);
        runsThrough("(: X (a Y) (b Z))", "1 Z 13 Y 13 3 4 X 5");
        runsThrough("(: 7 (a X) (b Y) (c Z))", "1 Z 13 Y 13 X 13 3 4 1 5");
        Session s = new Session(60);
        s.results("(: (. a (. b c)) (a 1) (b 2) (c 3))", "(1 2 . 3)");
    }

    /** "; : 6, then as for :, but 7 in place of 4 (in the frame of its letters all of these are)". */
    private static void bindingsInTheirFrame() {
        has("(; X (a (\\ () Y)))", 1 + 2 + 4 + 3 + 1);
        has("(; X (a (\\ () Y)) (b (\\ () Z)))", 1 + 2 + 8 + 3 + 1);
        has("(; 7 (a (\\ () X)) (b (\\ () Y)) (c (\\ () Z)))", 2 + 1 + 2 + 12 + 3 + 1);
        runsThrough("(; X (a (\\ () Y)))", "6 1 3 13 3 7 X 5");
        runsThrough("(; 7 (a (\\ () X)) (b (\\ () Y)) (c (\\ () Z)))", "6 1 3 13 3 13 3 13 3 7 1 5");
        runsThrough("(; (a) (a (\\ () X)) (b (\\ () Y)))", "6 1 3 13 3 13 3 7 1 2 4 X 5 5");
        runsThrough("(; (b) (a (\\ () X)) (b (\\ () Y)))", "6 1 3 13 3 13 3 7 1 2 4 Y 5 5");
        Session s = new Session(120);
        // The frame is counted once: what is around is in frame 1, for all of them.
        s.results("(: (; (. x (a)) (a (\\ () x))) (x 5))", "(5 . 5)");
        s.results("(: (; (. (a) x) (a (\\ () (. x (b)))) (b (\\ () x))) (x 5))", "((5 . 5) . 5)");
    }

    /** "The whole: L(x) 19." */
    private static void theWhole() {
        for (int k = 0; k < PARTS.length; k++) {
            Session s = new Session(60);
            s.compiles(PARTS[k], CELLS[k] + 1);
            s.traces(PARTS[k], TRACES[k] + " 19");
        }
    }

    /** "What belongs to an instruction comes in pairs of its own (..); data are lists likewise." */
    private static void pairsOfTheirOwn() {
        Session s = new Session(60);
        s.compiles("'(1)", 4);
        s.compiles("'(1 2 3)", 6);
        s.compiles("'(())", 4);
        s.compiles("'((1))", 5);
        s.compiles("'((1 2) (3) () a)", 10);
        s.results("(^ '(1 2))", "1");
        s.results("(_ '(1 2))", "(2)");
        s.results("(_ (_ '(1 2)))", "()");
        s.results("(^ '((1 2) 3))", "(1 2)");
        s.results("(_ '((1 2) 3))", "(3)");
        s.results("(_ (^ '((1 2) 3)))", "(2)");
    }

    /** "COMPILING makes all cells free, then those of the code used." */
    private static void whatCompilingMakesFree() {
        Session s = new Session(60);
        s.load("(; (f) (f (\\ () (f))))");
        s.machine.start();
        s.finish();
        Session.due("state of what never ends", s.machine.state(), 4);
        s.compiles("(! 1)", 4);
        s.ends("((\\ (x) (. x x)) '(1 2))", 2, 10);
        s.compiles("'(1 2)", 5);
        s.compiles("7", 3);
    }

    /** The code of a form has so many cells beside those of its parts. */
    private static void has(String form, int cells) {
        for (int x = 0; x < PARTS.length; x++) {
            for (int y = 0; y < PARTS.length; y++) {
                int z = (2 * x + 3 * y + 1) % PARTS.length;
                int all = cells + 1;
                all += form.contains("X") ? CELLS[x] : 0;
                all += form.contains("Y") ? CELLS[y] : 0;
                all += form.contains("Z") ? CELLS[z] : 0;
                new Session(250).compiles(with(form, PARTS, x, y, z), all);
            }
        }
    }

    private static void runsThrough(String form, String trace) {
        for (int x = 0; x < PARTS.length; x++) {
            for (int y = 0; y < PARTS.length; y++) {
                int z = (2 * x + 3 * y + 1) % PARTS.length;
                new Session(250).traces(with(form, PARTS, x, y, z), with(trace, TRACES, x, y, z) + " 19");
            }
        }
    }

    private static String with(String form, String[] parts, int x, int y, int z) {
        return form.replace("X", parts[x]).replace("Y", parts[y]).replace("Z", parts[z]);
    }
}
