/** Promise 4: position, for every place where a text can stop being a program. */
public final class PositionTest {
    public static void main(String[] args) {
        latestCompile();
        atoms();
        data();
        operations();
        functions();
        bindings();
        calls();
        depth();
        unknownVariables();
        Session.end();
    }

    /** "If compile threw IllegalArgumentException latest; NONE otherwise". */
    private static void latestCompile() {
        Session s = new Session(20);
        Session.due("position before compile", s.machine.position(), -1);
        s.fails("(+ 1", 4);
        s.write("12");
        s.machine.start();
        s.run(-1);
        Session.due("position behind other calls", s.machine.position(), 4);
        Session.due("compile", s.compile(), 3);
        Session.due("position behind compile", s.machine.position(), -1);
        s.fails("(+ 1 y)", 5);
        s.hasNoRoomFor("(1 (2 3 4 5) 6)");
        Session.due("position behind IllegalStateException", s.machine.position(), -1);
        s.fails("(x", 2);
        s.fails("(x)", 1);
        Session.due("position once more", s.machine.position(), 1);
    }

    /** "A number (perhaps -, then 1 to 4 digits), a variable (a letter a .. z)". */
    private static void atoms() {
        Session s = new Session(60);
        s.fails("", 0);
        s.fails(" 1", 0);
        s.fails("1 ", 1);
        s.fails("A", 0);
        s.fails("{", 0);
        s.fails("`", 0);
        s.fails("/", 0);
        s.fails(";", 0);
        s.fails(")", 0);
        s.fails("+1", 0);
        s.fails("-", 1);
        s.fails("-a", 1);
        s.fails("--1", 1);
        s.fails("12345", 4);
        s.fails("-12345", 5);
        s.fails("1a", 1);
        s.fails("a1", 1);
        s.fails("ab", 1);
        s.fails("1)", 1);
        s.compiles("-9999", 3);
    }

    /** "Data with a blank between each two in brackets, perhaps none". */
    private static void data() {
        Session s = new Session(60);
        s.fails("'", 1);
        s.fails("''a", 1);
        s.fails("' a", 1);
        s.fails("'(", 2);
        s.fails("'( )", 2);
        s.fails("'(a", 3);
        s.fails("'(a ", 4);
        s.fails("'(a )", 4);
        s.fails("'(a  b)", 4);
        s.fails("'(ab)", 3);
        s.fails("'(1-2)", 3);
        s.fails("'(12345)", 6);
        s.fails("'(- 1)", 3);
        s.fails("'('a)", 2);
        s.fails("'(a . b)", 4);
        s.fails("'()()", 3);
        s.fails("'(a b))", 6);
    }

    /** "One of these in brackets, with one blank between the parts". */
    private static void operations() {
        Session s = new Session(60);
        String[] signs = {"+", "-", "*", "=", "<", "."};
        for (String sign : signs) {
            s.fails("(" + sign, 2);
            s.fails("(" + sign + ")", 2);
            s.fails("(" + sign + "a", 2);
            s.fails("(" + sign + "  1 2)", 3);
            s.fails("(" + sign + " 1)", 4);
            s.fails("(" + sign + " 1 ", 5);
            s.fails("(" + sign + " 1 2", 6);
            s.fails("(" + sign + " 1 2 3)", 6);
        }
        String[] ofOne = {"^", "_", "!"};
        for (String sign : ofOne) {
            s.fails("(" + sign, 2);
            s.fails("(" + sign + ")", 2);
            s.fails("(" + sign + " )", 3);
            s.fails("(" + sign + " 1 2)", 4);
        }
        s.fails("(? 1 2)", 6);
        s.fails("(? 1 2 3 4)", 8);
        s.fails("(+1 2)", 2);
        s.fails("(-- 1 2)", 2);
    }

    /** "0 to 3 different letters in brackets, a blank between each two". */
    private static void functions() {
        Session s = new Session(60);
        s.fails("(\\", 2);
        s.fails("(\\(x) x)", 2);
        s.fails("(\\ x x)", 3);
        s.fails("(\\ (", 4);
        s.fails("(\\ (1) 1)", 4);
        s.fails("(\\ ( ) 1)", 4);
        s.fails("(\\ (x ) 1)", 6);
        s.fails("(\\ (xy) 1)", 5);
        s.fails("(\\ (x x) 1)", 6);
        s.fails("(\\ (x y x) 1)", 8);
        s.fails("(\\ (x y y) 1)", 8);
        s.fails("(\\ (x y z a) 1)", 9);
        s.fails("(\\ (x))", 6);
        s.fails("(\\ (x)x)", 6);
        s.fails("(\\ () 1 2)", 7);
        s.compiles("(\\ (x) (\\ (x) x))", 9);
    }

    /** "1 to 3 BINDINGS (a letter and an expression, in brackets), all letters different". */
    private static void bindings() {
        Session s = new Session(120);
        s.fails("(:", 2);
        s.fails("(: 1", 4);
        s.fails("(: 1)", 4);
        s.fails("(: 1 ", 5);
        s.fails("(: 1 )", 5);
        s.fails("(: 1 x)", 5);
        s.fails("(: 1 ()", 6);
        s.fails("(: 1 (1 2))", 6);
        s.fails("(: 1 (x))", 7);
        s.fails("(: 1 (x 1 2))", 9);
        s.fails("(: 1 (x 1)", 10);
        s.fails("(: 1 (x 1) )", 11);
        s.fails("(: 1 (x 1) (x 2))", 12);
        s.fails("(: 1 (x 1) (y 2) (x 3))", 18);
        s.fails("(: 1 (x 1) (y 2) (z 3) (a 4))", 22);
        s.fails("(: 1 (x 1)(y 2))", 10);
        s.fails("(; 1 (x x))", 8);
        s.fails("(; 1 (x 2))", 8);
        s.fails("(; 1 (x '(1)))", 8);
        s.fails("(; 1 (x (", 9);
        s.fails("(; 1 (x (x)))", 9);
        s.fails("(; 1 (x (+ 1 2)))", 9);
        s.fails("(; 1 (x (: 1 (y 2))))", 9);
        s.fails("(; 1 (x (\\ () 1)) (x (\\ () 1)))", 19);
        s.fails("(; 1 (x (\\ () 1)) (y 1))", 21);
        s.fails("(; 1)", 4);
        s.fails("(; 1 )", 5);
        s.fails("(; 1 (x (\\ () 1)) (y (\\ () 1)) (y (\\ () 1)))", 32);
        s.fails("(; 1 (x (\\ () 1)) (y (\\ () 1)) (z (\\ () 1)) (a (\\ () 1)))", 43);
        s.compiles("(: (: 1 (x 2)) (x (: 1 (x 3))))", 30);
    }

    /** "An expression (..) and 0 to 3 more". */
    private static void calls() {
        Session s = new Session(60);
        s.fails("(", 1);
        s.fails("()", 1);
        s.fails("( 1)", 1);
        s.fails("(1", 2);
        s.fails("(1 ", 3);
        s.fails("(1 )", 3);
        s.fails("(1  2)", 3);
        s.fails("(1 2 3 4 5)", 8);
        s.fails("(12345)", 5);
        s.fails("(-1-)", 3);
        s.fails("(1))", 3);
        s.fails("((\\ () 1)", 9);
        s.compiles("(-5)", 6);
        s.compiles("(-5 1)", 9);
        s.compiles("(- 5 1)", 6);
    }

    /** "Brackets are at most 9 deep in one another". */
    private static void depth() {
        Session s = new Session(250);
        s.compiles("(((((((((1)))))))))", 30);
        s.fails("((((((((((1))))))))))", 9);
        s.fails("((((((((((", 9);
        s.fails("(((((((((", 9);
        s.compiles("'((((((((()))))))))", 11);
        s.fails("'(((((((((()))))))))", 10);
        s.compiles("(! (! (! (! (! (! (! (! '(1)))))))))", 12);
        s.fails("(! (! (! (! (! (! (! (! '((1)))))))))", 26);
        s.fails("((((((((('()", 10);
        s.compiles("'(1 " + "(".repeat(8) + ")".repeat(9), 12);
        s.fails("'(1 " + "(".repeat(9) + ")".repeat(10), 12);
        s.compiles("(((((((: 1 (x (2)))))))))", 33);
        s.fails("(((((((: 1 (x ((2))))))))))", 15);
        s.compiles("(? ".repeat(9) + "1" + " 2 3)".repeat(9), 84);
        // Where a bracket must come, but would be too deep, the error is there, not before.
        s.fails("(((((((((\\", 10);
        s.fails("(((((((((\\ ", 11);
        s.fails("(((((((((\\ (", 11);
        s.fails("(((((((((\\ x", 11);
        s.compiles("((((((((\\ () 1))))))))", 27);
        s.fails("(((((((((: 1 (x 1)))))))))))", 13);
        s.fails("(((((((((: 1 x", 13);
        s.compiles("((((((((: 1 (x 1)))))))))", 33);
        s.fails("((((((((: 1 (x (1", 15);
        s.fails("((((((((; 1 (x (\\ () 1)))))))))))", 15);
        s.fails("((((((((; 1 (x 1)))))))))", 15);
        s.fails("(((((((; 1 (x (\\ () 1))))))))))", 17);
        s.compiles("((((((; 1 (x (\\ () 1))))))))", 31);
    }

    /** "A variable is not known where it stands, the first such place is the error". */
    private static void unknownVariables() {
        Session s = new Session(60);
        s.fails("x", 0);
        s.fails("(x", 2);
        s.fails("(x)", 1);
        s.fails("(. 1 (. b a))", 8);
        s.fails("(b a)", 1);
        s.fails("(: b (a c))", 3);
        s.fails("(: 1 (a c) (b d))", 8);
        s.fails("(; b (a (\\ () c)))", 3);
        s.fails("(? 1 (\\ (x) y) z)", 12);
        s.fails("(x x 12345)", 9);
    }
}
