import java.util.Arrays;

/** Terms 2, instructions: one test for each sentence that names an edge. */
public final class EdgeCodeTest {
    public static void main(String[] args) {
        methodNumbers();
        fieldNumbers();
        staticNumbers();
        stringNumbers();
        places();
        emptyBlocks();
        nestedElse();
        nestedTry();
        codeBehindReturn();
        endsOfMethods();
        initialisers();
        shortcuts();
        leftSides();
        overloads();
        standsOfSyncs();
        standsOfTries();
        standsOfStacks();
        mostOfEach();
        bindings();
        loosestEverywhere();
        laterClasses();
        Kit.done();
    }

    /** The instructions of a method: code, and number if it is not 0. */
    private static String code(FrostHouse x, int m) {
        StringBuilder all = new StringBuilder();
        for (int i = 0; i < x.method(m, 5); i++) {
            all.append(all.length() > 0 ? " " : "").append(x.method(m, 100 + i));
            if (x.method(m, 1000 + i) != 0) {
                all.append(":").append(x.method(m, 1000 + i));
            }
        }
        return all.toString();
    }

    private static void method(String text, int m, String want) {
        Kit.due(text + ", method " + m, code(Kit.house(text, 1), m), want);
    }

    private static void body(String statements, String want) {
        method("class A { static void main() { } static void x(int a, int b, A o, row w) { " + statements + " } int f; A n; void m() { } }", 1, want);
    }

    /** Where a thread stands as it runs: instruction / variables, stack, held. */
    private static String stands(FrostHouse x, int steps) {
        StringBuilder all = new StringBuilder();
        for (int i = 0; i < steps; i++) {
            all.append(all.length() > 0 ? " " : "").append(x.thread(0, 3)).append("/").append(x.thread(0, 5)).append(x.thread(0, 4)).append(x.thread(0, 6));
            x.run(1);
        }
        return all.toString();
    }

    // "METHODS are numbered as they stand; behind them each class has one more, its INITIALISER, by their order."
    private static void methodNumbers() {
        FrostHouse x = Kit.house("class A { int f; void a() { } static int s = 1; static void main() { B.c(); } } class B { static void c() { } static int t = 2; void d() { } } class C { }", 1);
        int[] classes = {0, 0, 1, 1, 0, 1, 2};
        int[] lengths = {1, 2, 1, 1, 3, 3, 1};
        int[] statics = {0, 1, 1, 0, 1, 1, 1};
        for (int m = 0; m < 7; m++) {
            Kit.due("class of method " + m, x.method(m, 0), classes[m]);
            Kit.due("static: method " + m, x.method(m, 1), statics[m]);
            Kit.due("length of method " + m, x.method(m, 5), lengths[m]);
        }
        Kit.due("no more", x.method(7, 0), -1);
        Kit.due("main calls B.c", x.method(1, 1000), 2);
    }

    // "FIELDS of each class are numbered from 0 on".
    private static void fieldNumbers() {
        method("class A { int a; static int s; int b; A c; void m() { a = 1; b = 2; c = this; } static void main() { } } class B { int z; int y; }", 0, "3 0:1 6 3 0:2 6:1 3 3 6:2 35");
        method("class A { int a; int b; } class B { int c; int d; static void main() { } void m() { c = 1; d = 2; } }", 1, "3 0:1 6 3 0:2 6:1 35");
    }

    // "STATICS and STRINGS (each one told) from 0 on through the text".
    private static void staticNumbers() {
        method("class A { static int a; int x; static int b; } class B { static int c; static void main() { c = 1; A.b = 2; A.a = 3; d = 4; } static int d; }", 0, "0:1 8:2 0:2 8:1 0:3 8 0:4 8:3 35");
    }

    private static void stringNumbers() {
        FrostHouse x = Kit.house("class A { static text t = \"a\"; static void main() { t = \"b\"; t = \"a\"; t = \"a\"; } } class B { static text u = \"b\" + \"c\"; static text w = \"\"; }", 1);
        Kit.due("main", code(x, 0), "1:1 8 1:2 8 1:3 8 35");
        Kit.due("A", code(x, 1), "1 8 35");
        Kit.due("B", code(x, 2), "1:4 1:5 28 8:1 1:6 8:2 35");
    }

    // "PLACES: this (0, if it isn't static), parameters, then each variable behind all that are in sight."
    private static void places() {
        method("class A { void m(int a, int b) { int c = a; { int d = b; int e = d; } int f = c; A g = this; } static void main() { } }", 0, "3:1 4:3 3:2 4:4 3:4 4:5 3:3 4:4 3 4:5 35");
        method("class A { static void m(int a, int b) { int c = a; { int d = b; } int e = c; } static void main() { } }", 0, "3 4:2 3:1 4:3 3:2 4:3 35");
        body("try { int c = 1; } catch (d) { int e = d; } try { } catch (g) { } int h = 2;", "0:1 4:4 31:6 4:4 3:4 4:5 31:8 4:4 0:2 4:4 35");
        body("if (a) int c = 1; else int d = 2; while (b) int e = 3; int g = 4;", "3 32:5 0:1 4:4 31:7 0:2 4:4 3:1 32:12 0:3 4:4 31:7 0:4 4:4 35");
    }

    // "if: E, ZERO A, S, (with else: JUMP B, A: the other S, B:) else A:. while: .. try: .. sync: ..", each with nothing in it.
    private static void emptyBlocks() {
        body("if (a) { }", "3 32:2 35");
        body("if (a) { } else { }", "3 32:3 31:3 35");
        body("while (a) { }", "3 32:3 31 35");
        body("try { } catch (e) { }", "31:2 4:4 35");
        body("sync (o) { }", "3:2 38 39 35");
        body("{ { } { { } } }", "35");
    }

    private static void nestedElse() {
        // The else is that of the latest if.
        body("if (a) if (b) a = 1; else a = 2;", "3 32:9 3:1 32:7 0:1 4 31:9 0:2 4 35");
        body("if (a) { if (b) a = 1; } else a = 2;", "3 32:7 3:1 32:6 0:1 4 31:9 0:2 4 35");
        body("if (a) while (b) a = 1; else a = 2;", "3 32:8 3:1 32:7 0:1 4 31:2 31:10 0:2 4 35");
    }

    private static void nestedTry() {
        body("try { try { a = 1; } catch (e) { a = e; } } catch (g) { throw g; }", "0:1 4 31:6 4:4 3:4 4 31:10 4:4 3:4 37 35");
        FrostHouse x = Kit.house("class A { static void main() { try { try { throw 1; } catch (a) { throw a + 1; } throw 9; } catch (b) { print(b); } } }", 1);
        x.run(50);
        Kit.due("what is thrown in the inner catch goes to the outer one", Kit.out(x), "2|");
    }

    // "(nothing ahead of each S, also behind a return)": what stands behind a return is made as well.
    private static void codeBehindReturn() {
        body("return; a = 1; return; throw 1; b = 2;", "35 0:1 4 35 0:1 37 0:2 4:1 35");
        method("class A { static int x(int a) { return a; return 1; } static void main() { } }", 0, "3 36 0:1 36 0 36");
    }

    // "Behind a METHOD's BLOCK: RETURN of void, else INT 0 (of int) or NULL, GIVE."
    private static void endsOfMethods() {
        FrostHouse x = Kit.house("class A { void a() { } int b() { } text c() { } row d() { } A e() { } static void main() { A x = new A(); print(x.b()); print(x.c()); print(x.d() == null); print(x.e() == null); x.a(); } }", 1);
        String[] want = {"35", "0 36", "2 36", "2 36", "2 36"};
        for (int m = 0; m < want.length; m++) {
            Kit.due("method " + m, code(x, m), want[m]);
        }
        for (int m = 1; m < want.length; m++) {
            Kit.due("values on the stack of method " + m, x.method(m, 4), 1);
        }
        x.run(100);
        Kit.due("what they give", Kit.out(x), "0|null|1|1|");
        FrostHouse y = standingAtGive("int b() { }");
        RestoreTest.refused("an int on the stack there", y, i -> i.change(7, 25, 0, 0, 0, 6), 0, -1);
        FrostHouse z = standingAtGive("text b() { }");
        RestoreTest.refused("null on the stack there", z, i -> i.change(7, 25, 0, 0, 0, 0), 0, -1);
        RestoreTest.refused("no object can be", z, i -> i.change(7, 25, 0, 0, 0, 1), 5, 1);
    }

    /** A thread in b, whose BLOCK is empty, at its GIVE: its frame has this at 21 .. 24, then one value. */
    private static FrostHouse standingAtGive(String method) {
        FrostHouse x = Kit.house("class A { " + method + " static A o; static void main() { o = new A(); print(o.b()); } }", 50);
        while (x.thread(0, 2) != 0 || x.thread(0, 3) != 1) {
            x.run(1);
        }
        Kit.due("one value on the stack", x.thread(0, 4), 1);
        return x;
    }

    // "An INITIALISER: E SETSTATIC of each STATIC with E, RETURN."
    private static void initialisers() {
        FrostHouse x = Kit.house("class A { static int a; static int b = 1; static int c; static int d = b; static void main() { } } class B { int f; } class C { static A o = new A(); }", 1);
        Kit.due("A", code(x, 1), "0:1 8:1 7:1 8:3 35");
        Kit.due("B", code(x, 2), "35");
        Kit.due("C", code(x, 3), "11 8:4 35");
    }

    // "a && b: a, ZERO A, b, NOT, NOT, JUMP B, A: INT 0, B:. a || b: a, ZERO A, INT 1, JUMP B, A: b, NOT, NOT, B:."
    private static void shortcuts() {
        body("a = a && b && a;", "3 32:6 3:1 19 19 31:7 0 32:12 3 19 19 31:13 0 4 35");
        body("a = a || b || a;", "3 32:4 0:1 31:7 3:1 19 19 32:10 0:1 31:13 3 19 19 4 35");
        body("a = a && (b || a);", "3 32:12 3:1 32:6 0:1 31:9 3 19 19 19 19 31:13 0 4 35");
        body("if (a && b) { }", "3 32:6 3:1 19 19 31:7 0 32:8 35");
    }

    // "= : E PUT of a variable; object, E, SETFIELD; E, SETSTATIC; row, index, E, SETELEMENT."
    private static void leftSides() {
        body("(a) = b; ((o.f)) = a; (o.n.n).f = 1; (w)[a + 1] = w[b];", "3:1 4 3:2 3 6 3:2 5:1 5:1 0:1 6 3:3 3 0:1 13 3:3 3:1 9 10 35");
        body("w[w[w[a]]] = 1; o.n.n = o.n;", "3:3 3:3 3:3 3 9 9 0:1 10 3:2 5:1 3:2 5:1 6:1 35");
        method("class A { static row w; static A o; A n; int f; static void main() { w[1] = 2; A.o.n.f = 3; o.n = o; } }", 0, "7 0:1 0:2 10 7:1 5 0:3 6:1 7:1 7:1 6 35");
    }

    // "of several that fit the one told first".
    private static void overloads() {
        body("print(a); print(\"\"); print(null);", "3 41 40 1 41:1 40 2 41:1 40 35");
        body("len(\"\"); len(w); len(null);", "1 41:19 40 3:3 41:20 40 2 41:19 40 35");
        body("wait(o); wait(o, a); wait(w); wait(\"\", 1);", "3:2 41:2 40 3:2 3 41:3 40 3:3 41:2 40 1 0:1 41:3 40 35");
    }

    // "how many syncs are around it (LEAVE's own, too; ENTER's not)".
    private static void standsOfSyncs() {
        FrostHouse x = Kit.house("class A { static void main() { text t = \"\"; sync (t) { sync (\"a\") { } t = t; } } }", 1);
        Kit.due("stands", stands(x, 11), "0/000 1/010 2/100 3/110 4/101 5/111 6/102 7/101 8/111 9/101 10/000");
        FrostHouse y = Kit.house("class A { static int f(text t) { sync (t) { sync (t) { return 5; } } } static void main() { print(f(\"\")); } }", 1);
        y.run(4);
        Kit.due("stands of a return within", stands(y, 7), "0/100 1/110 2/101 3/111 4/102 5/112 2/010");
    }

    // "at A of a try the int that is thrown is on the stack alone".
    private static void standsOfTries() {
        FrostHouse x = Kit.house("class A { static void main() { text t = \"\"; sync (t) { int a = 1; try { int b = 2; sync (\"a\") { print(a + (b + 1 / 0)); } } catch (e) { e = 3; } } } }", 1);
        // Six values ahead of the division: its own two, b and a, are on the stack; two monitors are held.
        Kit.due("stands", stands(x, 19),
            "0/000 1/010 2/100 3/110 4/101 5/111 6/201 7/211 8/301 9/311 10/302 11/312 12/322 13/332 14/342 21/211 22/301 23/311 24/101");
    }

    // "what is on the stack (nothing ahead of each S ..)".
    private static void standsOfStacks() {
        FrostHouse x = Kit.house("class A { static int f(int a, int b) { return b; } static void main() { print(1 + f(2, f(3, 4))); int x = 0 || 5; } }", 1);
        // The class is wanted by the inner call, whose initialiser is a frame of its own.
        Kit.due("stands", stands(x, 20),
            "0/000 1/010 2/020 3/030 4/040 0/000 4/040 0/200 1/210 5/030 0/200 1/210 6/020 7/010 8/010 9/000 10/010 13/000 14/010 15/010");
        Kit.due("stands behind a shortcut", stands(x, 4), "16/010 17/000 -1/-1-1-1 -1/-1-1-1");
    }

    // "3 the most variables in sight, 4 the most values on the stack".
    private static void mostOfEach() {
        FrostHouse x = Kit.house("class A { void a(int p) { } static void b(int p) { } void c() { int x = 1; { int y = 2; int z = 3; } int w = 4; } static void main() { { int a = 1; } try { } catch (e) { int g = 1; } } "
            + "static int d() { return 1 + (2 + (3 + 4)); } static int s = 1; }", 1);
        int[] variables = {2, 1, 4, 2, 0, 0};
        int[] stack = {0, 0, 1, 1, 4, 1};
        for (int m = 0; m < variables.length; m++) {
            Kit.due("variables of method " + m, x.method(m, 3), variables[m]);
            Kit.due("stack of method " + m, x.method(m, 4), stack[m]);
        }
        StringBuilder most = new StringBuilder("class A { static void main() { int x = " + "1+(".repeat(9) + "1" + ")".repeat(9) + "; ");
        for (int i = 1; i < 12; i++) {
            most.append("int v").append(i).append(" = ").append(i).append("; ");
        }
        FrostHouse y = Kit.house(most + "print(x); print(v11); sleep(1); } }", 1);
        Kit.due("twelve variables", y.method(0, 3), 12);
        Kit.due("ten values", y.method(0, 4), 10);
        y.run(30);
        y.freeze();
        y.take();
        Kit.due("restore", y.restore(0, 0), 0);
        y.run(100);
        Kit.due("they are all there", Kit.out(y), "10|11|");
    }

    private static int levelOf(String sign) {
        String[] levels = {"||", "&&", "== !=", "< <= > >=", "+ -", "* / %"};
        for (int i = 0; i < levels.length; i++) {
            if (Arrays.asList(levels[i].split(" ")).contains(sign)) {
                return i;
            }
        }
        return -1;
    }

    private static String main(String expression) {
        return code(Kit.house("class A { static void main() { int a = 1; int b = 2; int c = 3; a = " + expression + "; } }", 1), 0);
    }

    // "E: U's with signs between, from the loosest: || then && then == != then < <= > >= then + - then * / % , all from the left."
    private static void bindings() {
        String[] signs = "|| && == != < <= > >= + - * / %".split(" ");
        for (String one : signs) {
            for (String two : signs) {
                String plain = "a " + one + " b " + two + " c";
                boolean isFirst = levelOf(one) >= levelOf(two);
                Kit.due(plain, main(plain), main(isFirst ? "(a " + one + " b) " + two + " c" : "a " + one + " (b " + two + " c)"));
                Kit.due("not the other way: " + plain, main(plain).equals(main(isFirst ? "a " + one + " (b " + two + " c)" : "(a " + one + " b) " + two + " c")), false);
            }
            Kit.due("- binds tighter than " + one, main("-a " + one + " -b"), main("(-a) " + one + " (-b)"));
            Kit.due("! binds tighter than " + one, main("!a " + one + " !b"), main("(!a) " + one + " (!b)"));
        }
        Kit.due("all", main("a || b && c == a < b + c * -a % b"), main("a || (b && (c == (a < (b + ((c * (-a)) % b)))))"));
    }

    // An E is as loose as can be wherever one stands.
    private static void loosestEverywhere() {
        String or = "3 32:4 0:1 31:7 3:1 19 19";
        body("if (a || b) { }", or + " 32:8 35");
        body("while (a || b) { }", or + " 32:9 31 35");
        body("throw a || b;", or + " 37 35");
        body("a = a || b;", or + " 4 35");
        body("int c = a || b;", or + " 4:4 35");
        body("print(a || b);", or + " 41 40 35");
        body("a = (a || b);", or + " 4 35");
        body("w = new row[a || b];", or + " 12 4:3 35");
        body("w[a || b] = 1;", "3:3 3 32:5 0:1 31:8 3:1 19 19 0:1 10 35");
        body("w[0] = a || b;", "3:3 0 3 32:6 0:1 31:9 3:1 19 19 10 35");
        body("a = w[a || b];", "3:3 3 32:5 0:1 31:8 3:1 19 19 9 4 35");
        body("o.f = a || b;", "3:2 3 32:5 0:1 31:8 3:1 19 19 6 35");
        body("wait(o, a || b);", "3:2 3 32:5 0:1 31:8 3:1 19 19 41:3 40 35");
        method("class A { static int f(int a, int b) { return a || b; } static void main() { } static int s = 1 || 0; }", 0, "3 32:4 0:1 31:7 3:1 19 19 36 0 36");
        method("class A { static int f(int a, int b) { return a || b; } static void main() { } static int s = 1 || 0; }", 2, "0:1 32:4 0:1 31:7 0 19 19 8 35");
    }

    /** Runs a program; freezes it and goes on with the image behind each step. */
    private static String throughImages(String text, int steps) {
        FrostHouse x = Kit.house(text, 7);
        StringBuilder all = new StringBuilder();
        for (int i = 0; i < steps && x.about(0) == 1; i++) {
            x.run(1);
            all.append(Kit.out(x));
            x.freeze();
            x.take();
            Kit.due("restore at step " + i + " of " + text + " (" + x.fault(3) + ")", x.restore(x.clock(), 0), 0);
        }
        return all.toString();
    }

    // What stands on the stack and in variables has its TYPE also in classes that are not the first.
    private static void laterClasses() {
        Kit.due("fields, calls, this", throughImages("class Z { int q; } class Y { } class B { int f; B n; text t; row w; static B s; static int g; B me() { return this; } int sum(B o, text u, int x) { f = f + x; this.f = this.f + 1; n = o; n.f = f + sleep(1); "
            + "o.t = u + 1; w = new row[2]; w[1] = w[0] + f; this.w[0] = len(u); return f + o.sum2(me(), sleep(1)); } int sum2(B o, int x) { t = \"a\" + x; if (o == this || n == null) { s = o; return me().me().f; } return -x; } "
            + "static B of(int x) { B b = new B(); b.f = x; g = g + x; B.s = b; return b; } } "
            + "class A { static B b = B.of(4); static A a; B h; A k; static void main() { A x = new A(); a = x; x.h = b; x.k = a; x.k.h.n = B.of(5); print(a.k.h.n.sum(x.h, \"u\", 2)); print(b.t); print(b.f); print(B.g); sync (x.h) { x.h.w = new row[3]; print(len(a.h.w)); } "
            + "try { print(x.h.n.sum(null, \"v\", sleep(1))); } catch (e) { print(e); } } }", 400), "8|a0|8|9|3|-1|");
    }
}
