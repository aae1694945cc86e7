/** Terms 1, texts: one test for each sentence that names an edge; each ^ in a text marks the place that is due. */
public final class EdgeTextTest {
    private static final String MAIN = " class M { static void main() { } }";
    private static final String[] WORDS = ("catch class else if int new null res return row spawn static sync text this throw try void while").split(" ");
    /** Of each type a variable of inMain's; the last one is the word null. */
    private static final String[] VALUES = {"i", "t", "r", "o", "p", "null"};
    private static final String[] TYPES = {"int", "text", "row", "A", "R"};
    private static final int INT = 0;
    private static final int TEXT = 1;
    private static final int ROW = 2;
    private static final int NULL = 5;

    public static void main(String[] args) {
        longestTokens();
        blanks();
        nameSizes();
        words();
        numbers();
        strings();
        signs();
        prefixes();
        openers();
        openTillClosed();
        leastKindThenPlace();
        twoOfAName();
        inSight();
        whatANameIs();
        whatACallIs();
        behindAPoint();
        binarySigns();
        unarySigns();
        assignments();
        targets();
        returns();
        wordsThatWant();
        statics();
        spawns();
        brackets();
        callsAtTheirName();
        voidWithin();
        builtIns();
        resClasses();
        noType();
        noTypeByForm();
        muchOfEach();
        muchOnTheStack();
        noMain();
        Kit.done();
    }

    private static void check(String marked, int kind) {
        FrostHouse x = new FrostHouse();
        int place = marked.indexOf('^');
        int answer = Kit.load(x, marked.replace("^", ""), 1);
        Kit.due("load of " + marked, answer < 0, kind != 0);
        Kit.due("kind of " + marked, x.fault(0), kind);
        Kit.due("place of " + marked, x.fault(1), kind == 0 ? -1 : place);
    }

    /** A statement in a static method with a variable of each type. */
    private static void inMain(String statement, int kind) {
        check("class A { int f; A n; row w; static int s; void m() { } int q(int a) { return a; } static void v() { } static int c(int a, text b) { return a; } "
            + "static void main() { int i = 1; text t = \"\"; row r = null; A o = null; R p = null; " + statement + " } } "
            + "res class R { static int z; int f; void freeze() { } void thaw() { } static void y() { } }", kind);
    }

    private static void inMethod(String statement, int kind) {
        check("class A { int f; static int s; void m() { " + statement + " } static void v() { } static void main() { } }", kind);
    }

    // "TOKENS, each as long as can be".
    private static void longestTokens() {
        check("class classA { int intx; int while1; int if_; }" + MAIN, 0);
        check("class A { static int a = 1==1; static int b = 1<=1; static int c = 1!=1; static int d = !1; static int e = 1- -1; static int f = - -1; }" + MAIN, 0);
        check("class A { static int a = 1 ==^= 1; }", 1);
        check("class A { static int a = 1 <=^= 1; }", 1);
        check("class A { static int a = 1 <^> 1; }", 1);
        check("class A { static int a = 1 &&^& 1; }", 1);
        check("class A { static int a = 1 ||^| 1; }", 1);
        check("class A { static int a ^== 1; }", 1);
        check("class A { static int a = 1 ^= = 1; }", 1);
        check("class A { static text a = \"ab\"^\"cd\"; }", 1);
        check("class A { static int a=--1; static int b=!!1; static int c=-!-1; }" + MAIN, 0);
        check("class A{static int a=2147483647;int b;text c;}class M{static void main(){}}", 0);
    }

    // "between them blanks (32, 10)".
    private static void blanks() {
        check("\n\n class\nA\n{\n}\n" + MAIN + "\n ", 0);
        for (int c : new int[] {0, 9, 11, 12, 13, 31, 127, 128, 160, 255}) {
            check("class A { ^" + (char) c + " }", 1);
        }
    }

    // "NAMES: a letter, then letters, digits, _ ; 12 at most in all."
    private static void nameSizes() {
        check("class Z { int a; int Z; int z9_; int A23456789_12; int a_; int main; int print; int Class; }" + MAIN, 0);
        check("class A { int ^a234567890123; }", 1);
        check("class A { int ^_; }", 1);
        check("class A { int ^9a; }", 1);
        check("class A { int ^\u00e4; }", 1);
        check("class A { int a^\u00e4; }", 1);
        check("class A { int a^$; }", 1);
        check("class A { int Aa; int aA; int aa; int AA; }" + MAIN, 0);
        // Names that many ways of counting letters together would take for one.
        check("class A { int Aa; int BB; int AaAa; int BBBB; int AaBB; int BBAa; int ab; int ba; }" + MAIN, 0);
        check("class A { int Aa; int BB; int ^Aa; }" + MAIN, 2);
        check("class A { int AaBB; void f() { ^BBAa = 1; } }" + MAIN, 2);
        for (char c = 'a'; c <= 'z'; c++) {
            check("class " + c + "1 { int " + c + "; int " + Character.toUpperCase(c) + "; int b" + c + "; int b" + Character.toUpperCase(c) + "; }" + MAIN, 0);
        }
        for (char c = '0'; c <= '9'; c++) {
            check("class A { int ^" + c + "; }", 1);
            check("class A { int a" + c + "; static int s = " + c + "; static int t = 1" + c + "; }" + MAIN, 0);
        }
    }

    // "WORDS: catch class else if ..": none of them is a NAME.
    private static void words() {
        for (String word : WORDS) {
            check("class A { int ^" + word + "; }", 1);
            check("class A { int " + word + "x; int " + word.toUpperCase() + "; }" + MAIN, 0);
        }
    }

    // "NUMBERS: digits, up to 2147483647, no letter or _ right behind."
    private static void numbers() {
        check("class A { static int a = 0; static int b = 000; static int c = 2147483647; static int d = 00000000000000000000000000002147483647; }" + MAIN, 0);
        check("class A { static int a = ^2147483648; }", 1);
        check("class A { static int a = -^2147483648; }", 1);
        check("class A { static int a = ^4294967296; }", 1);
        check("class A { static int a = ^18446744073709551617; }", 1);
        check("class A { static int a = ^0x1; }", 1);
        check("class A { static int a = ^1_; }", 1);
        check("class A { static int a = ^1A; }", 1);
        check("class A { static int a = 1 ^A; }", 1);
        check("class A { static int a = ^2147483648a; }", 1);
        FrostHouse x = Kit.house("class A { static void main() { print(0002147483647); print(00); print(010); } }", 1);
        x.run(20);
        Kit.due("what they are worth", Kit.out(x), "2147483647|0|10|");
    }

    // "STRINGS: " , 0 to 24 bytes 32 .. 126 but " , then " ."
    private static void strings() {
        String most = "a23456789012345678901234";
        check("class A { static text a = \"\"; static text b = \" ~!\"; static text c = \"" + most + "\"; }" + MAIN, 0);
        check("class A { static text a = ^\"" + most + "5\"; }", 1);
        check("class A { static text a = ^\"" + most + "5678\"; }", 1);
        check("class A { static text a = ^\"a", 1);
        check("class A { static text a = ^\"", 1);
        for (int c : new int[] {0, 10, 31, 127, 128, 255}) {
            check("class A { static text a = ^\"a" + (char) c + "b\"; }", 1);
        }
        FrostHouse x = Kit.house("class A { static void main() { print(len(\"" + most + "\")); print(len(\"\")); print(\"\\n//'\"); } }", 1);
        x.run(30);
        Kit.due("nothing in them is special", Kit.out(x), "24|0|\\n//'|");
    }

    // "SIGNS: ( ) { } [ ] ; , . = == ..": nothing else begins a token.
    private static void signs() {
        for (char c : "@#$%^~`':?\\&|".toCharArray()) {
            String text = "class A { static int a = " + c + " 1; }";
            FrostHouse x = new FrostHouse();
            Kit.load(x, text, 1);
            Kit.due("kind of " + text, x.fault(0), 1);
            Kit.due("place of " + text, x.fault(1), 25);
        }
    }

    // "1 SYNTAX: the first token with which no PROGRAM goes on": what is cut off can go on, so the end is told.
    private static void prefixes() {
        String[] tokens = ("res class A { int f ; static int s = - 1 + ( 2 ) ; static text t ; void freeze ( ) { if ( f ) { } else while ( 1 ) f = 2 ; } "
            + "void thaw ( ) { try { throw 1 ; } catch ( e ) { } sync ( this ) { return ; } } int g ( int a , row b ) { b [ a ] = spawn this . thaw ( ) ; "
            + "A x = new A ( ) ; row y = new row [ 3 ] ; return x . g ( 1 , null ) && ! 0 ; } static void main ( ) { print ( \"a\" ) ; } }").split(" ");
        StringBuilder text = new StringBuilder();
        for (String token : tokens) {
            check(text + "^", 1);
            check(text + "^# " + token, 1);
            if (!(text + token).endsWith("main ( ) { print ( \"a\" ) ; } }")) {
                check(text + token + "^", 1);
            }
            text.append(token).append(" ");
        }
        check(text.toString(), 0);
        check(text + "^;", 1);
        check(text + "class ^", 1);
        for (String sign : new String[] {"==", "!=", "<=", ">=", "&&", "||", "+", "<", "="}) {
            check("class A { static void f() { x " + sign + "^", 1);
        }
        check("class A { static row r = new row^; }", 1);
        check("class A { static row r = new row^.f; }", 1);
        check("class A { static row r = new row ^+ 1; }", 1);
    }

    // "also a ( [ { - ! spawn, or an S that is no BLOCK behind ) or else, that would be the 21st open within one another".
    private static void openers() {
        // With one bracket of the class and one of the method 18 more may be open; each of these opens one, and stays open.
        for (String filler : new String[] {"{ ", "while (1) ", "if (1) ", "if (1) { } else "}) {
            // The S of the last one is the BLOCK: it opens none by itself.
            String head = "class A { static void main() { " + filler.repeat(filler.equals("{ ") ? 17 : 18);
            String tail = filler.equals("{ ") ? " }".repeat(17) : "";
            check(head + "{ int x = 1; }" + tail + " } }", 0);
            check(head + "{ int x = ^(1); }" + tail + " } }", 1);
            check(head + "{ int x = ^-1; }" + tail + " } }", 1);
            check(head + "{ int x = ^!1; }" + tail + " } }", 1);
            check(head + "{ int x = ^spawn f(); }" + tail + " } }", 1);
            check(head + "{ int x = y^[1]; }" + tail + " } }", 1);
            check(head + "{ int x = y^(1); }" + tail + " } }", 1);
            check(head + "{ ^{ } }" + tail + " } }", 1);
            check(head + "{ try ^{ } catch (e) { } }" + tail + " } }", 1);
            check(head + "{ sync ^(x) { } }" + tail + " } }", 1);
            check(head + "{ while ^(1) return; }" + tail + " } }", 1);
            check(head + "{ int x = new A^(); }" + tail + " } }", 1);
            check(head + "{ int x = new row^[1]; }" + tail + " } }", 1);
            check(head + "{ x.y^(); }" + tail + " } }", 1);
        }
        for (String filler : new String[] {"-", "!", "(", "spawn "}) {
            String head = "class A { static void main() { x = " + filler.repeat(18);
            String tail = filler.equals("(") ? ")".repeat(18) : "";
            check(head + "^(1)" + tail + "; } }", 1);
            check(head + "^- 1" + tail + "; } }", 1);
            check(head + "^! 1" + tail + "; } }", 1);
            check(head + "^spawn f" + tail + "; } }", 1);
            check(head + "f^(1)" + tail + "; } }", 1);
            check(head + "f^[1]" + tail + "; } }", 1);
        }
        // 19 are open with the condition's bracket closed again; the S that is no BLOCK would be the 21st.
        check("class A { static void main() { " + "{ ".repeat(18) + "if ^(1) return;" + " }".repeat(18) + " } }", 1);
        check("class A { static void main() { " + "{ ".repeat(17) + "if (1) return; else return; while (1) return;" + " }".repeat(17) + " } }", 0);
        check("class A { static void main() { " + "while (1) ".repeat(17) + "if (1) return; else return; } }", 0);
        check("class A { static void main() { " + "while (1) ".repeat(18) + "return; } }", 0);
        check("class A { static void main() { " + "{ ".repeat(18) + "try ^{ } catch (e) { }" + " }".repeat(18) + " } }", 1);
        // Of a class's static one is open.
        check("class A { static int x = " + "-".repeat(19) + "1; }" + MAIN, 0);
        check("class A { static int x = " + "-".repeat(19) + "^-1; }" + MAIN, 1);
        check("class A { static int x = " + "-(".repeat(9) + "-1" + ")".repeat(9) + "; }" + MAIN, 0);
        check("class A { static int x = " + "-(".repeat(9) + "-^(1)" + ")".repeat(9) + "; }" + MAIN, 1);
    }

    // "all brackets .. till they close, the others till what is behind them ends".
    private static void openTillClosed() {
        check("class A { static void main() { " + "{ ".repeat(18) + "} ".repeat(18) + "{ ".repeat(18) + "} ".repeat(18) + "} }", 0);
        check("class A { static int x = " + "-".repeat(19) + "1 + " + "-".repeat(19) + "1 - " + "!".repeat(19) + "1; }" + MAIN, 0);
        check("class A { static int x = " + "-".repeat(19) + "1 + " + "-".repeat(19) + "^-1; }" + MAIN, 1);
        check("class A { static int x = " + "(".repeat(19) + "1" + ")".repeat(19) + " + " + "(".repeat(19) + "1" + ")".repeat(19) + "; }" + MAIN, 0);
        // What stands behind a P is behind its minus, too: U is - U, so it is open till the index ends.
        check("class A { static row r; static int x = " + "-".repeat(18) + "r[1]; }" + MAIN, 0);
        check("class A { static row r; static int x = " + "-".repeat(19) + "r^[1]; }" + MAIN, 1);
        check("class A { static int x = " + "f(".repeat(19) + "1" + ")".repeat(19) + "; static int f(int a) { return a; } }" + MAIN, 0);
        check("class A { static int x = " + "f(".repeat(19) + "f^(1)" + ")".repeat(19) + "; static int f(int a) { return a; } }" + MAIN, 1);
        check("class A { static void main() { " + "while (1) ".repeat(17) + "{ } " + "while (1) ".repeat(18) + "return; } }", 0);
    }

    // "Of several the least kind, of these the least place."
    private static void leastKindThenPlace() {
        String five = "class A { ";
        String four = "void f(int a, int b, int c, int d, int e) { } ";
        String three = "void g() { int x = null; } ";
        String two = "void h() { y = 1; } ";
        check(five + four + three + two + "^; }", 1);
        check(five + four + three + two.replace("y", "^y") + two.replace("h", "k") + "}", 2);
        check(five + four + three.replace("=", "^=") + three.replace("g", "h") + "}", 3);
        check(five + four.replace("int e", "int ^e") + four.replace("f(", "g(") + "}", 4);
        check(five + "}^", 5);
        check("class A { void f() { int x = null; int y = 1; int ^y = null; } }", 2);
        check("class A { int a; void f() { ^b = 1; } int a; }", 2);
        check("class A { void f() { int x ^= null; int y = null; } }", 3);
    }

    // "2 NAMES: at the second one of two CLASSES of a name, of two FIELDS or STATICS of a class, of two METHODS of one".
    private static void twoOfAName() {
        check("class A { } class ^A { }" + MAIN, 2);
        check("class A { } class B { } class C { } class ^B { } class A { }" + MAIN, 2);
        check("class A { int x; int ^x; int x; }" + MAIN, 2);
        check("class A { int x; static int ^x; }" + MAIN, 2);
        check("class A { static int x; int ^x; }" + MAIN, 2);
        check("class A { static int x; static text ^x; }" + MAIN, 2);
        check("class A { int x; int x() { return 1; } } class B { int x; static int x() { return 1; } }" + MAIN, 0);
        check("class A { void x() { } static void ^x() { } }" + MAIN, 2);
        check("class A { void x() { } void ^x(int a) { } }" + MAIN, 2);
        check("class A { void x() { } } class B { void x() { } }" + MAIN, 0);
        check("class x { int x; void x() { int x = 1; } }" + MAIN, 0);
    }

    // "of a variable .. where one of its name is in sight (it is from behind its E, of catch in its BLOCK, to the end of the BLOCK around, or of the S of if, else, while that it is)".
    private static void inSight() {
        inMain("int j = 1; int ^j = 2;", 2);
        inMain("int j = ^j + 1;", 2);
        inMain("{ int j = 1; { { int ^j = 2; } } }", 2);
        inMain("{ { int j = 1; } int j = 2; } int j = 3;", 0);
        inMain("while (0) int j = 1; ^j = 2;", 2);
        inMain("if (1) { } else int j = 1; ^j = 2;", 2);
        inMain("if (1) int j = 1; else ^j = 2;", 2);
        inMain("if (1) int j = 1; else int j = 2; int j = 3;", 0);
        inMain("while (0) if (1) int j = 1; else { int j = 2; } int j = 3;", 0);
        inMain("try { int j = 1; } catch (e) { ^j = 2; }", 2);
        inMain("try { ^e = 1; } catch (e) { }", 2);
        inMain("try { } catch (e) { e = 1; { int ^e = 2; } }", 2);
        inMain("try { int e = 1; } catch (e) { } int e = 2;", 0);
        inMain("try { } catch (e) { try { } catch (^e) { } }", 2);
        inMain("try { } catch (e) { } try { } catch (e) { }", 0);
        inMain("sync (t) { int j = 1; } int j = 2;", 0);
        inMain("sync (t) { int j = 1; } ^j = 2;", 2);
        check("class A { void f(int a, text ^a) { } }" + MAIN, 2);
        check("class A { void f(int a) { { int ^a = 1; } } }" + MAIN, 2);
        check("class A { void f(int a) { try { } catch (^a) { } } }" + MAIN, 2);
        check("class A { void f(int a) { } void g(int a) { a = 1; } void h() { ^a = 1; } }" + MAIN, 2);
        check("class A { int a; static int b; void f(int a, int b) { int f = a + b; } }" + MAIN, 0);
    }

    // "A class that there is not; a NAME that is neither a variable in sight nor a FIELD or STATIC of the class (ahead of a point a class, if it is neither)".
    private static void whatANameIs() {
        check("class A { void f(^B b) { } }" + MAIN, 2);
        check("class A { static ^B f() { return null; } }" + MAIN, 2);
        inMain("^B b = null;", 2);
        inMain("o = new ^B();", 2);
        inMain("i = ^z;", 2);
        inMain("i = ^m;", 2);
        inMain("i = ^print;", 2);
        inMain("i = ^A;", 2);
        inMain("i = ^A[0];", 2);
        inMain("i = R.z; R.z = i; (R.z) = 2;", 0);
        inMain("i = (^R).z;", 2);
        inMain("i = ^B.z;", 2);
        inMain("int R = 1; i = R^.z;", 3);
        inMain("A R = o; i = R.f;", 0);
        inMain("A R = o; i = R.^z;", 2);
        check("class A { static A R; static void main() { print(R.f); } int f; } class R { static int z; }", 0);
        check("class A { static A R; static void main() { print(R.^z); } int f; } class R { static int z; }", 2);
        check("class A { A R; static void main() { print(^R.z); } } class R { static int z; }", 3);
        check("class A { static int x = ^z; } class B { static int z; }" + MAIN, 2);
        check("class A { static int x = B.z; } class B { static int z; }" + MAIN, 0);
    }

    // "NAME ARGS that is neither a METHOD of the class nor a BUILT-IN".
    private static void whatACallIs() {
        inMain("^z();", 2);
        inMain("^y();", 2);
        inMain("R.y(); v(); A.v();", 0);
        inMain("^i();", 2);
        inMain("^f();", 2);
        inMain("^A();", 2);
        inMain("^s(1, zz);", 2);
        inMain("print(^zz);", 2);
        // A METHOD of the class is ahead of a BUILT-IN of its name.
        check("class A { static int time(int a) { return a; } static void main() { print(time(1)); } }", 0);
        check("class A { static int time(int a) { return a; } static void main() { print(^time()); } }", 3);
        check("class A { static int time(int a) { return a; } } class B { static void main() { print(time()); } }", 0);
    }

    // "behind a point likewise of that class (no BUILT-IN; of a class told by its name STATICS and METHODS; of an object FIELDS and METHODS)".
    private static void behindAPoint() {
        inMain("o.^print(1);", 2);
        inMain("A.^time();", 2);
        inMain("i = A.^f;", 2);
        inMain("i = A.s;", 0);
        inMain("i = o.f;", 0);
        inMain("i = o.^s;", 2);
        inMain("i = o.n.n.f; o.n.n.m(); o.n.n.f = 1;", 0);
        inMain("i = o.n.^z;", 2);
        inMain("i = o.^q;", 2);
        inMain("o.^f();", 2);
        inMain("A.^s();", 2);
        inMain("p.^m();", 2);
        inMain("p.freeze(); p.f = 2;", 0);
        inMain("i = new A().^z;", 2);
        inMain("i = new A().f; new A().m();", 0);
        inMain("i = A.^A.s;", 2);
    }

    private static boolean fits(int given, int wanted) {
        return given == wanted || given == NULL && wanted != INT;
    }

    // "At the sign: - * / % < <= > >= && || ! of others than ints; + of ..; == != of ..": each sign with each two types.
    private static void binarySigns() {
        for (String sign : new String[] {"-", "*", "/", "%", "<", "<=", ">", ">=", "&&", "||", "+", "==", "!="}) {
            for (int a = 0; a < VALUES.length; a++) {
                for (int b = 0; b < VALUES.length; b++) {
                    boolean isRight = a == INT && b == INT;
                    String target = "i";
                    if (sign.equals("+")) {
                        isRight = a <= TEXT && b <= TEXT;
                        target = a == TEXT || b == TEXT ? "t" : "i";
                    } else if (sign.equals("==") || sign.equals("!=")) {
                        isRight = a == b || a == NULL && b != INT || b == NULL && a != INT;
                    }
                    inMain(target + " = " + VALUES[a] + " ^" + sign + " " + VALUES[b] + ";", isRight ? 0 : 3);
                }
            }
        }
    }

    private static void unarySigns() {
        for (String sign : new String[] {"-", "!"}) {
            for (int a = 0; a < VALUES.length; a++) {
                inMain("i = ^" + sign + VALUES[a] + ";", a == INT ? 0 : 3);
            }
        }
        inMain("i = -^!t;", 3);
        inMain("i = -(^!t);", 3);
    }

    // "= ahead of what doesn't fit (the same TYPE, or null and one that is not int)"; "a variable's first = counts as one".
    private static void assignments() {
        for (int to = 0; to < TYPES.length; to++) {
            for (int from = 0; from < VALUES.length; from++) {
                int kind = fits(from, to) ? 0 : 3;
                inMain(VALUES[to] + " ^= " + VALUES[from] + ";", kind);
                inMain(TYPES[to] + " z ^= " + VALUES[from] + ";", kind);
            }
        }
        inMain("o.f ^= t;", 3);
        inMain("o.n ^= p;", 3);
        inMain("s ^= t;", 3);
        inMain("R.z ^= null;", 3);
        inMain("r[0] ^= null;", 3);
        inMain("r[0] ^= t;", 3);
        inMain("o.n = null; o.w = r; r[0] = 1;", 0);
        String[] firsts = {"1", "\"\"", "new row[1]", "new A()", "new R()", "null"};
        for (int to = 0; to < TYPES.length; to++) {
            for (int from = 0; from < firsts.length; from++) {
                check("class A { static " + TYPES[to] + " z ^= " + firsts[from] + "; } res class R { void freeze() { } void thaw() { } }" + MAIN, fits(from, to) ? 0 : 3);
            }
        }
    }

    // "behind what is no variable, FIELD, STATIC, element (( ) around it don't matter)".
    private static void targets() {
        for (String target : new String[] {"i", "(i)", "((i))", "o.f", "(o.f)", "(o).f", "s", "(s)", "A.s", "(A.s)", "r[0]", "(r[0])", "(r)[0]", "o.w[0]", "(o.n).n.f"}) {
            inMain(target + " = 1;", 0);
        }
        for (String target : new String[] {"1", "(1)", "-i", "i + i", "(i + 1)", "c(1, t)", "o.q(1)", "time()", "spawn v()", "!i", "len(t)"}) {
            inMain(target + " ^= 1;", 3);
        }
        for (String target : new String[] {"null", "\"\"", "new A()", "new row[1]", "new row[i]", "new row[o.f]", "new row[r[0]]", "new row[s]"}) {
            inMain(target + " ^= null;", 3);
        }
        inMethod("this ^= null;", 3);
        inMethod("(this) ^= this;", 3);
        inMethod("this.f = 1; (this.f) = 2; (f) = 3;", 0);
    }

    // "At the word: return with a wrong E, with one in void, without one elsewhere".
    private static void returns() {
        String[] values = {"1", "\"\"", "new row[1]", "new A()", "new R()", "null"};
        for (int to = 0; to < TYPES.length; to++) {
            for (int from = 0; from < values.length; from++) {
                check("class A { " + TYPES[to] + " z() { ^return " + values[from] + "; } } res class R { void freeze() { } void thaw() { } }" + MAIN, fits(from, to) ? 0 : 3);
            }
            check("class A { " + TYPES[to] + " z() { ^return; } } res class R { void freeze() { } void thaw() { } }" + MAIN, 3);
            check("class A { " + TYPES[to] + " z() { } } res class R { void freeze() { } void thaw() { } }" + MAIN, 0);
        }
        for (String value : values) {
            inMain("^return " + value + ";", 3);
        }
        inMain("return;", 0);
        inMain("^return v();", 3);
        inMain("^return (1 - t);", 3);
        check("class A { int z() { return ^v(); } void v() { } }" + MAIN, 3);
    }

    // "the E of if, while that is no int"; "throw of no int; sync of an int, of null".
    private static void wordsThatWant() {
        for (int a = 0; a < VALUES.length; a++) {
            inMain("if (^" + VALUES[a] + ") { }", a == INT ? 0 : 3);
            inMain("while (^" + VALUES[a] + ") { }", a == INT ? 0 : 3);
            inMain("if (^(" + VALUES[a] + ")) { }", a == INT ? 0 : 3);
            inMain("^throw " + VALUES[a] + ";", a == INT ? 0 : 3);
            inMain("^sync (" + VALUES[a] + ") { }", a == INT || a == NULL ? 3 : 0);
        }
        inMain("if (^t + 1) { }", 3);
        inMain("if (^new A()) { }", 3);
        inMain("^sync ((null)) { }", 3);
        inMain("sync (o ^|| i) { }", 3);
        inMain("sync (i ^&& o) { }", 3);
        inMain("^sync (i || i) { }", 3);
        inMain("sync (\"\") { } sync (new A()) { } sync (new row[1]) { }", 0);
    }

    // "this, and a NAME that is a FIELD, in what is static".
    private static void statics() {
        inMain("o = ^this;", 3);
        inMain("i = ^this.f;", 3);
        inMain("^this.m();", 3);
        inMain("i = ^f;", 3);
        inMain("i = ^n.f;", 3);
        inMain("^w[0] = 1;", 3);
        inMain("int f = 1; i = f; row w = r; w[0] = 1;", 0);
        check("class A { int f; static int s = ^f; }" + MAIN, 3);
        check("class A { int f; static int s = ^this.f; }" + MAIN, 3);
        check("class A { int f; static A a = new A(); static int s = a.f; }" + MAIN, 0);
        inMethod("A x = this; int y = f + this.f + s + A.s; f = y; this.m(); m(); v(); A.v();", 0);
    }

    // "spawn of what is no call of a METHOD that is void"; "( ) around it don't matter, behind spawn neither".
    private static void spawns() {
        inMain("spawn v(); spawn (v()); (spawn ((A.v()))); i = spawn o.m(); i = 1 + spawn R.y(); print(spawn v());", 0);
        for (String what : new String[] {"c(1, t)", "o.q(1)", "print(1)", "time()", "i", "o", "1", "null", "(i)", "new A()", "-i", "o.f", "r[0]", "spawn v()", "(spawn v())", "(i + 1)"}) {
            inMain("^spawn " + what + ";", 3);
            inMain("i = ^spawn " + what + ";", 3);
        }
        // No BUILT-IN is a METHOD, however it is called.
        inMain("^spawn print();", 3);
        inMain("i = ^spawn sleep(t);", 3);
        // Its value is an int.
        inMain("t ^= spawn v();", 3);
        inMain("i = spawn v() + spawn v();", 0);
        inMain("i = ^spawn v().f;", 3);
        inMain("i = spawn ^v(1);", 3);
        inMain("i = spawn ^m();", 3);
        inMain("i = spawn A.^m();", 3);
        inMain("i = spawn o.^v();", 3);
    }

    // "At the [ : what is no row, an index or size that is no int. At the point: behind what is no object."
    private static void brackets() {
        for (int a = 0; a < VALUES.length; a++) {
            inMain("i = " + VALUES[a] + "^[0];", a == ROW ? 0 : 3);
            inMain("i = r^[" + VALUES[a] + "];", a == INT ? 0 : 3);
            inMain("r = new row^[" + VALUES[a] + "];", a == INT ? 0 : 3);
            inMain("i = " + VALUES[a] + "^.f;", a == 3 || a == 4 ? 0 : 3);
            inMain(VALUES[a] + (a == 3 ? ".^freeze();" : "^.freeze();"), a == 4 ? 0 : a == 3 ? 2 : 3);
        }
        inMain("i = new row[3][0];", 0);
        inMain("i = r[r[r[0]]];", 0);
        inMain("i = r[0]^[0];", 3);
        inMain("i = \"\"^.f;", 3);
        inMain("i = 1^.f;", 3);
        inMain("i = o.f^.f;", 3);
        inMain("i = time()^.f;", 3);
    }

    // "At the NAME: of a call its ARGS (as many, fitting); a METHOD that isn't static by a class's name, or by its NAME alone in what is static; a static one by an object".
    private static void callsAtTheirName() {
        for (int a = 0; a < VALUES.length; a++) {
            for (int b = 0; b < VALUES.length; b++) {
                inMain("^c(" + VALUES[a] + ", " + VALUES[b] + ");", fits(a, INT) && fits(b, TEXT) ? 0 : 3);
            }
        }
        inMain("^c();", 3);
        inMain("^c(1);", 3);
        inMain("^c(1, t, 2);", 3);
        inMain("A.^c(1);", 3);
        inMain("o.^q();", 3);
        inMain("o.^q(1, 2);", 3);
        inMain("^v(1);", 3);
        inMain("A.^m();", 3);
        inMain("^m();", 3);
        inMain("i = ^q(1);", 3);
        inMain("o.^v();", 3);
        inMain("i = o.^c(1, t);", 3);
        check("class A { void m() { } static int s = ^m(); }" + MAIN, 3);
        check("class A { int m() { return 1; } static int s = ^m(); }" + MAIN, 3);
        check("class A { static int m() { return 1; } static int s = m(); static int t = A.m(); }" + MAIN, 0);
        check("class A { A n() { return this; } static A s = new A().n().n(); }" + MAIN, 0);
    }

    // "a call of void within anything else (of spawn: not so)".
    private static void voidWithin() {
        inMain("v(); (v()); o.m(); A.v(); R.y();", 0);
        for (String around : new String[] {"i = ?;", "i = 1 + ?;", "i = ? + 1;", "print(?);", "c(?, t);", "i = r[?];", "r[?] = 1;", "r = new row[?];", "if (?) { }", "while (?) { }", "throw ?;",
                "sync (?) { }", "i = -?;", "i = !(?);", "int z = ?;", "i = ? && 1;", "i = 1 || ?;", "o.n = ?;"}) {
            inMain(around.replace("?", "^v()"), 3);
            inMain(around.replace("?", "o.^m()"), 3);
            inMain(around.replace("?", "(A.^v())"), 3);
        }
        inMain("^v().f = 1;", 3);
        inMain("^v()[0] = 1;", 3);
        inMain("^v() = 1;", 3);
        check("class A { static int s = ^v(); static void v() { } }" + MAIN, 3);
        check("class A { int z() { return ^v(); } static void v() { } }" + MAIN, 3);
    }

    // "BUILT-INS .. o: no int, not null alone; of several that fit the one told first".
    private static void builtIns() {
        String[] ofObject = {"wait(?)", "notify(?)", "all(?)", "hash(?)", "wait(?, 1)"};
        String[] ofInt = {"sleep(?)", "interrupt(?)", "join(?)", "close(?)", "failure(?)", "wait(o, ?)"};
        for (int a = 0; a < VALUES.length; a++) {
            for (String call : ofObject) {
                inMain("^" + call.replace("?", VALUES[a]) + ";", a == INT || a == NULL ? 3 : 0);
            }
            for (String call : ofInt) {
                inMain("^" + call.replace("?", VALUES[a]) + ";", a == INT ? 0 : 3);
            }
            inMain("^register(" + VALUES[a] + ");", a == 4 ? 0 : 3);
            inMain("^print(" + VALUES[a] + ");", a == INT || a == TEXT || a == NULL ? 0 : 3);
            inMain("^intern(" + VALUES[a] + ");", a == TEXT || a == NULL ? 0 : 3);
            inMain("^len(" + VALUES[a] + ");", a == TEXT || a == ROW || a == NULL ? 0 : 3);
        }
        for (String call : new String[] {"time", "open", "checkpoint", "failures", "arg", "me", "interrupted"}) {
            inMain("i = " + call + "();", 0);
            inMain("i = ^" + call + "(1);", 3);
        }
        for (String call : new String[] {"print", "wait", "notify", "all", "sleep", "interrupt", "join", "hash", "register", "close", "failure", "intern", "len"}) {
            inMain("^" + call + "();", 3);
            inMain("^" + call + "(1, 2, 3);", 3);
        }
        inMain("i ^= intern(t);", 3);
        inMain("t = intern(t); t = intern(null) + 1;", 0);
        inMain("t ^= len(t);", 3);
    }

    // "At its NAME a res class without METHODS freeze and thaw, both void, not static, without parameters."
    private static void resClasses() {
        String[] wrong = {"", "void freeze() { }", "void thaw() { }", "static void freeze() { } void thaw() { }", "void freeze() { } static void thaw() { }", "int freeze() { } void thaw() { }",
            "void freeze() { } text thaw() { }", "void freeze(int a) { } void thaw() { }", "void freeze() { } void thaw(R a) { }", "int freeze; int thaw;", "void Freeze() { } void thaw() { }", "void freezf() { } void thaw() { }", "void freeze() { } void thaq() { }", "void freeze() { } void tha() { }"};
        for (String members : wrong) {
            check("res class ^R { " + members + " }" + MAIN, 3);
            check("class R { " + members + " }" + MAIN, 0);
        }
        check("res class R { int freeze; void thaw() { } void other() { } void freeze() { } }" + MAIN, 0);
        check("res class ^R { } res class S { }" + MAIN, 3);
    }

    // "An E has no TYPE if it is broken itself .., or a part of it, but an ARG, has none; what wants a TYPE of it is not broken by that (by another part it may be)."
    private static void noType() {
        for (String around : new String[] {"if (?) { }", "while (?) { }", "throw ?;", "sync (?) { }", "i = ?;", "t = ?;", "o = ?;", "o.f = ?;", "r[?] = 1;", "r = new row[?];", "i = -?;", "i = !?;",
                "i = 1 - ?;", "i = ? - 1;", "i = 1 + ?;", "t = t + ?;", "i = o == ?;", "i = null != ?;", "i = i == ?;", "i = 1 && ?;", "i = ? || 1;", "print(?);", "c(?, t);", "c(1, ?);", "wait(?);",
                "wait(?, 1);", "wait(o, ?);", "register(?);", "len(?);", "i = len(intern(?));", "i = ?.f;", "?.m();", "i = ?[0];", "i = (?).f.f[1].f;", "i = o.q(?);", "i = 1 < (2 * ?);"}) {
            inMain(around.replace("?", "(t ^- 1)"), 3);
            inMain(around.replace("?", "r^[t]"), 3);
            inMain(around.replace("?", "^c(1)"), 3);
            inMain(around.replace("?", "o.^q()"), 3);
            inMain(around.replace("?", "^len()"), 3);
            inMain(around.replace("?", "null^.f"), 3);
            inMain(around.replace("?", "^this"), 3);
            inMain(around.replace("?", "^f"), 3);
            inMain(around.replace("?", "(1 ^&& t)"), 3);
        }
        for (String target : new String[] {"i", "t", "o", "r"}) {
            inMain(target + " = new row^[t];", 3);
            inMain(target + " = new row[(t ^- 1)];", 3);
            inMain(target + " = r^[t];", 3);
            inMain(target + " = r[(t ^- 1)];", 3);
            inMain(target + " = t^[0];", 3);
            inMain(target + " = ^spawn i;", 3);
            inMain(target + " = ^!t;", 3);
            inMain(target + " = t ^< 1;", 3);
            inMain(target + " = t ^== 1;", 3);
            inMain(target + " = r ^+ 1;", 3);
            inMain(target + " = 1 ^|| t;", 3);
            inMain(target + " = ^c(1);", 3);
            inMain(target + " = ^intern(1);", 3);
        }
        // A call whose ARG has no TYPE still has its own.
        inMain("if (^t + c((t - 1), t)) { }", 3);
        inMain("^throw t + c((t - 1), t);", 3);
        inMain("o ^= c((t - 1), t);", 3);
        inMain("i = -c((t ^- 1), t);", 3);
        inMain("t ^= len((t - 1));", 3);
        inMain("i ^= intern((t - 1));", 3);
        inMain("i = ^!intern((t - 1));", 3);
        // By another part it may be broken.
        inMain("i = t ^- (t - 1);", 3);
        inMain("i = null ^+ (t - 1);", 3);
        inMain("i = i^[t - 1];", 3);
        inMain("i = ^c((t - 1), 1);", 3);
        inMain("i = ^c((t - 1));", 3);
        inMain("i = ^wait(1, (t - 1));", 3);
        inMain("i = ^wait((t - 1), t);", 3);
        inMain("i = ^sleep((t - 1), 1);", 3);
    }

    // What asks for a form, not for a TYPE, is broken whatever the TYPE is.
    private static void noTypeByForm() {
        inMain("^(t - 1);", 3);
        inMain("^1 + (t - 1);", 3);
        inMain("^new row[c(1, t)];", 3);
        inMain("^c(1, t) || i;", 3);
        inMain("^c(1, t) + 1;", 3);
        inMain("^c(1, t) && c(1, t);", 3);
        inMain("^r[c(1, t)];", 3);
        inMain("^o.q(1) == 1;", 3);
        inMain("^spawn v() + 1;", 3);
        inMain("^-spawn v();", 3);
        inMain("^-c(1);", 3);
        inMain("^c(1);", 3);
        inMain("(^c(1));", 3);
        inMain("o.^q();", 3);
        inMain("1 ^= (t - 1);", 3);
        inMain("^return (t - 1);", 3);
        inMain("^spawn (t - 1);", 3);
        inMain("^spawn f;", 3);
        inMain("^spawn c(1);", 3);
        inMain("spawn ^v(1);", 3);
        inMain("spawn (t ^- 1).m();", 3);
    }

    // "4 MUCH": the last that may be, and the first that may not.
    private static void muchOfEach() {
        StringBuilder classes = new StringBuilder();
        for (int i = 0; i < 7; i++) {
            classes.append("class C").append(i).append(" { } ");
        }
        check(classes + MAIN, 0);
        check(classes + MAIN + " class ^D { } class E { }", 4);
        StringBuilder fields = new StringBuilder();
        StringBuilder statics = new StringBuilder();
        for (int i = 0; i < 8; i++) {
            fields.append("int f").append(i).append("; ");
            statics.append("static int s").append(i).append("; ");
        }
        check("class A { " + fields + statics + "} class B { " + statics + fields + "}" + MAIN, 0);
        check("class A { " + fields + statics + "row ^x; static row y; }" + MAIN, 4);
        check("class A { " + fields + statics + "static row ^y; row x; }" + MAIN, 4);
        check("class A { } class B { " + statics + "static row ^y; }" + MAIN, 4);
        StringBuilder methods = new StringBuilder();
        for (int i = 0; i < 30; i++) {
            methods.append("void m").append(i).append("(){} ");
        }
        check("class A { static void main(){} " + methods.substring(0, methods.indexOf("void m29")) + "}", 0);
        check("class A { static void main(){} " + methods.toString().replace("m29", "^m29") + "void n(){} }", 4);
        check("class A { " + methods.substring(0, methods.indexOf("void m29")) + "} class B { static void main(){} int ^x(){} }", 4);
        check("class A { void f(int a, int b, int c, int d) { } static void g(int a, int b, int c, int d) { } }" + MAIN, 0);
        check("class A { void f(int a, int b, int c, int d, int ^e, int g) { } }" + MAIN, 4);
        check("class A { static void f(int a, int b, int c, int d, int ^e) { } }" + MAIN, 4);
        StringBuilder variables = new StringBuilder();
        for (int i = 0; i < 12; i++) {
            variables.append("int v").append(i).append("=1; ");
        }
        String eight = variables.substring(0, variables.indexOf("int v8"));
        String seven = variables.substring(0, variables.indexOf("int v7"));
        check("class A { static void f() { " + variables + "} }" + MAIN, 0);
        check("class A { static void f() { " + variables + "{ int ^x = 1; } } }" + MAIN, 4);
        check("class A { static void f() { " + variables + "try { } catch (^x) { } } }" + MAIN, 4);
        check("class A { static void f() { { " + variables + "} " + variables + "} }" + MAIN, 0);
        check("class A { static void f(int a, int b, int c, int d) { " + eight + "} }" + MAIN, 0);
        check("class A { static void f(int a, int b, int c, int d) { " + eight + "int ^x = 1; } }" + MAIN, 4);
        check("class A { void f(int a, int b, int c, int d) { " + seven + "} }" + MAIN, 0);
        check("class A { void f(int a, int b, int c, int d) { " + seven + "int ^x = 1; int y = 1; } }" + MAIN, 4);
        check("class A { void f() { " + variables.toString().replace("v11", "^v11") + "} }" + MAIN, 4);
        String twenty = "t=\"\";".repeat(20);
        check("class A { static void f(text t) { " + twenty + "} static void g(text t) { " + twenty + "} }" + MAIN, 0);
        check("class A { static void f(text t) { " + twenty + "} static text z = \"\"; static void g(text t) { " + "t=\"\";".repeat(19) + "t=^\"\";t=\"\";} }" + MAIN, 4);
        check("class A { static void f(text t) { " + twenty + twenty + "t = ^\"\"; t = \"\"; } }" + MAIN, 4);
        check("class A { static void f(int x) { " + "x=x;".repeat(124) + "return; } }" + MAIN, 0);
        check("class A { static void ^f(int x) { " + "x=x;".repeat(124) + "return; return; } }" + MAIN, 4);
        check("class A { static int s = " + "1+".repeat(123) + "1; }" + MAIN, 0);
        check("class ^A { static int s = " + "1+".repeat(123) + "1; static int t = 1; }" + MAIN, 4);
        check("class A { static int s = " + "1+".repeat(122) + "1; static int t = 1; }" + MAIN, 0);
    }

    // "or there are more than 10 values on its stack".
    private static void muchOnTheStack() {
        check("class A { static int s = " + "1+(".repeat(9) + "1" + ")".repeat(9) + "; }" + MAIN, 0);
        check("class ^A { static int s = " + "1+(".repeat(10) + "1" + ")".repeat(10) + "; }" + MAIN, 4);
        check("class A { static void f() { print(" + "1+(".repeat(9) + "1" + ")".repeat(9) + "); } }" + MAIN, 0);
        check("class A { static void ^f() { print(" + "1+(".repeat(10) + "1" + ")".repeat(10) + "); } }" + MAIN, 4);
        // The first part of && does not stay: its jump has taken it.
        check("class A { static void f() { print(" + "1&&(".repeat(12) + "1" + ")".repeat(12) + "); } }" + MAIN, 0);
        check("class A { static void f() { print(" + "0||(".repeat(12) + "1" + ")".repeat(12) + "); } }" + MAIN, 0);
        // Of a call the object and the args.
        check("class A { int g(int a, int b, int c, int d) { return 1; } void f() { print(g(1, 2, 3, g(1, 2, 3, 4 + (5)))); } }" + MAIN, 0);
        check("class A { int g(int a, int b, int c, int d) { return 1; } void ^f() { print(g(1, 2, 3, g(1, 2, 3, 4 + (5 + 6)))); } }" + MAIN, 4);
        check("class A { row w; void f() { w[1+(2+(3+(4+(5+(6+(7+8))))))] = 1; } }" + MAIN, 0);
        check("class A { row w; void ^f() { w[1+(2+(3+(4+(5+(6+(7+(8+(9+1))))))))] = 1; } }" + MAIN, 4);
    }

    // "5: no class has a METHOD main, void, static, without parameters (at the end)."
    private static void noMain() {
        for (String members : new String[] {"", "static int main() { }", "void main() { }", "static void main(int a) { }", "static void Main() { }", "static void mine() { }", "static void mainn() { }", "static void mai() { }", "int main;", "static int main;"}) {
            check("class A { " + members + " } \n^", 5);
            check("class A { " + members + " } class B { static void main() { } }", 0);
        }
    }
}
