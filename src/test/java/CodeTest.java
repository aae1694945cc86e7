/** Promises 18 and 19: method and klass; what texts are made to. */
public final class CodeTest {
    public static void main(String[] args) {
        statements();
        expressions();
        calls();
        stands();
        facts();
        classes();
        Kit.done();
    }

    /** The instructions of a method: code, and number if it is not 0. */
    private static String code(FrostHouse x, int m) {
        StringBuilder all = new StringBuilder();
        for (int i = 0; i < x.method(m, 5); i++) {
            all.append(all.length() > 0 ? " " : "").append(x.method(m, 100 + i));
            if (x.method(m, 1000 + i) != 0) {
                all.append(":").append(x.method(m, 1000 + i));
            }
        }
        return all.toString();
    }

    /** Method 0 of class A has this body; a, b, c are int variables 0, 1, 2; o 3; t 4; w 5. */
    private static void body(String text, String want) {
        FrostHouse x = Kit.house("class A { static void x(int a, int b, int c, A o) { text t = null; row w = null; " + text
            + " } int f; A n; static int s; static A q; static void main() { } void m() { } int g(int p, text r) { return 1; } "
            + "static int h(int p) { return p; } static void v() { } }", 1);
        Kit.due(text, code(x, 0), ("2 4:4 2 4:5 " + want + " 35").replace("  ", " "));
    }

    private static void statements() {
        body("", "");
        body("{ a = b; }", "3:1 4");
        body("int d = 5; d = d;", "0:5 4:6 3:6 4:6");
        body("{ int d = 1; } { int e = 2; int f = 3; }", "0:1 4:6 0:2 4:6 0:3 4:7");
        body("if (a) b = c;", "3 32:8 3:2 4:1");
        body("if (a) b = c; else c = b;", "3 32:9 3:2 4:1 31:11 3:1 4:2");
        body("if (a) { } else { }", "3 32:7 31:7");
        body("while (a) b = c;", "3 32:9 3:2 4:1 31:4");
        body("while (1) { }", "0:1 32:7 31:4");
        body("return;", "35");
        body("throw a;", "3 37");
        body("try { a = 1; } catch (e) { b = e; }", "0:1 4 31:10 4:6 3:6 4:1");
        body("try { } catch (e) { }", "31:6 4:6");
        body("sync (o) { a = 1; }", "3:3 38 0:1 4 39");
        body("h(1); v(); time();", "0:1 33:4 40 33:5 41:11 40");
        body("o.f = a; o.n.n = o; s = 2; A.q = o; w[a] = b;", "3:3 3 6 3:3 5:1 3:3 6:1 0:2 8 3:3 8:1 3:5 3 3:1 10");
    }

    private static void expressions() {
        body("a = 2147483647;", "0:2147483647 4");
        body("t = \"\"; t = \"x\"; t = \"\";", "1 4:4 1:1 4:4 1:2 4:4");
        body("a = o.f; a = o.n.f; a = s; o = A.q; a = w[b];", "3:3 5 4 3:3 5:1 5 4 7 4 7:1 4:3 3:5 3:1 9 4");
        body("o = new A(); w = new row[a];", "11 4:3 3 12 4:5");
        body("a = -b; a = !b; a = - -b;", "3:1 18 4 3:1 19 4 3:1 18 18 4");
        body("a = a + b - c * a / b % c;", "3 3:1 13 3:2 3 15 3:1 16 3:2 17 14 4");
        body("a = a < b; a = a <= b; a = a > b; a = a >= b;", "3 3:1 20 4 3 3:1 21 4 3 3:1 22 4 3 3:1 23 4");
        body("a = a == b; a = a != b; a = o == null; a = t != t;", "3 3:1 24 4 3 3:1 25 4 3:3 2 26 4 3:4 3:4 27 4");
        body("t = t + t; t = t + a; t = a + t;", "3:4 3:4 28 4:4 3:4 3 29 4:4 3 3:4 30 4:4");
        body("a = a && b;", "3 32:10 3:1 19 19 31:11 0 4");
        body("a = a || b;", "3 32:8 0:1 31:11 3:1 19 19 4");
        body("a = a || b && c;", "3 32:8 0:1 31:17 3:1 32:14 3:2 19 19 31:15 0 19 19 4");
        body("a = a < b == c < a;", "3 3:1 20 3:2 3 20 24 4");
        body("a = a - b - c;", "3 3:1 14 3:2 14 4");
        body("a = a - (b - c);", "3 3:1 3:2 14 14 4");
        body("a = -b * c; a = !b == c;", "3:1 18 3:2 15 4 3:1 19 3:2 24 4");
    }

    private static void calls() {
        body("a = h(b); a = A.h(b); a = o.g(a, t);", "3:1 33:4 4 3:1 33:4 4 3:3 3 3:4 33:3 4");
        body("a = spawn v(); spawn A.v(); spawn o.m();", "34:5 4 34:5 40 3:3 34:2 40");
        body("print(a); print(t); print(null);", "3 41 40 3:4 41:1 40 2 41:1 40");
        body("wait(o); wait(o, a); notify(t); all(w);", "3:3 41:2 40 3:3 3 41:3 40 3:4 41:4 40 3:5 41:5 40");
        body("sleep(1); interrupt(1); interrupted(); join(1); hash(o); time();",
            "0:1 41:6 40 0:1 41:7 40 41:8 40 0:1 41:9 40 3:3 41:10 40 41:11 40");
        body("open(); close(1); checkpoint(); failures(); failure(1);", "41:13 40 0:1 41:14 40 41:15 40 41:16 40 0:1 41:17 40");
        body("t = intern(t); len(t); len(w); len(null); arg(); me();",
            "3:4 41:18 4:4 3:4 41:19 40 3:5 41:20 40 2 41:19 40 41:21 40 41:22 40");
        FrostHouse x = Kit.house("class A { int f; void m(int a) { f = a; m(f); this.m(a); A q = this; n(); spawn m(1); } static void n() { } static void main() { } }", 1);
        Kit.due("fields and calls alone", code(x, 0), "3 3:1 6 3 3 5 33 3 3:1 33 3 4:2 33:1 3 0:1 34 40 35");
        FrostHouse y = Kit.house("class A { int a() { } text b() { } A c() { return null; } row d() { } static void main() { } }", 1);
        Kit.due("behind an int's block", code(y, 0), "0 36");
        Kit.due("behind a text's block", code(y, 1), "2 36");
        Kit.due("behind an object's block", code(y, 2), "2 36 2 36");
        Kit.due("behind a row's block", code(y, 3), "2 36");
        FrostHouse z = Kit.house("res class R { static int a = 1; static int b; void freeze() { register(this); } void thaw() { } } "
            + "class A { static void main() { print(\"0\"); } static text c = \"1\"; static int d = R.a; }", 1);
        Kit.due("an initialiser", code(z, 3), "0:1 8 35");
        Kit.due("an initialiser", code(z, 4), "1:1 8:2 7 8:3 35");
        Kit.due("strings through the text", code(z, 2), "1 41:1 40 35");
    }

    /** What stands at each instruction of a run: variables, stack, held, each as a digit. */
    private static String stands(FrostHouse x, int t, int steps) {
        StringBuilder all = new StringBuilder();
        for (int i = 0; i < steps; i++) {
            all.append(all.length() > 0 ? " " : "").append(x.thread(t, 3)).append("/").append(x.thread(t, 5))
                .append(x.thread(t, 4)).append(x.thread(t, 6));
            x.run(1);
        }
        return all.toString();
    }

    private static void stands() {
        FrostHouse x = Kit.house("class A { static void main() { int a = 1; { int b = a + 2; } sync (\"\") { int c = 3; c = 4; } } }", 1);
        Kit.due("stands", stands(x, 0, 16),
            "0/000 1/010 2/100 3/110 4/120 5/110 6/100 7/110 8/101 9/111 10/201 11/211 12/101 13/000 -1/-1-1-1 -1/-1-1-1");
        FrostHouse y = Kit.house("class A { static void main() { try { throw 1; } catch (e) { e = 2; } if (1) int q = 1; } }", 1);
        Kit.due("stands of a try", stands(y, 0, 9), "0/000 1/010 3/010 4/100 5/110 6/000 7/010 8/000 9/010");
        Kit.due("stands behind", stands(y, 0, 1), "10/000");
        FrostHouse z = Kit.house("class A { void m(int a) { int b = a; } static void main() { (new A()).m(5); } }", 1);
        z.run(5);
        Kit.due("a method with this", stands(z, 0, 3), "0/200 1/210 2/200");
        Kit.due("behind the call", stands(z, 0, 1), "3/000");
    }

    private static void facts() {
        FrostHouse x = new FrostHouse();
        Kit.due("method without a machine", x.method(0, 0), -1);
        Kit.load(x, "class A { int m(int a, text b) { int c = a + (a + (a + a)); if (a) { int d = 1; int e = 2; } return c; } "
            + "static void main() { try { } catch (e) { } } } class B { static int s = 1 + 2; static void q(int x) { } }", 1);
        int[][] want = {{0, 0, 2, 6, 4, 18}, {0, 1, 0, 1, 1, 3}, {1, 1, 1, 1, 0, 1}, {0, 1, 0, 0, 0, 1}, {1, 1, 0, 0, 2, 5}};
        for (int m = 0; m < want.length; m++) {
            for (int what = 0; what < 6; what++) {
                Kit.due("method(" + m + ", " + what + ")", x.method(m, what), want[m][what]);
            }
        }
        int[][] none = {{-1, 0}, {5, 0}, {5, 100}, {0, -1}, {0, 6}, {0, 99}, {0, 118}, {0, 999}, {0, 1018}, {0, 2147483647}, {0, -2147483648}, {3, 101}};
        for (int[] pair : none) {
            Kit.due("method(" + pair[0] + ", " + pair[1] + ")", x.method(pair[0], pair[1]), -1);
        }
        Kit.due("method(3, 100)", x.method(3, 100), 35);
        Kit.due("method(3, 1000)", x.method(3, 1000), 0);
    }

    private static void classes() {
        FrostHouse x = new FrostHouse();
        Kit.due("klass without a machine", x.klass(0, 0), -1);
        Kit.due("klass without a machine", x.klass(0, 10), -1);
        Kit.load(x, "class A { static int a = -5; static text b; static row c = new row[1]; int f; static void main() { B.x(); A.a = 3; } } "
            + "res class B { int g; text h; void freeze() { } void thaw() { } static int y = 1 / 0; static void x() { } } class C { }", 1);
        int[][] first = {{0, -1, 1, 3, 0}, {0, -1, 2, 1, 1}, {0, -1, 0, 0, 0}};
        for (int c = 0; c < 3; c++) {
            for (int what = 0; what < 5; what++) {
                Kit.due("klass(" + c + ", " + what + ")", x.klass(c, what), first[c][what]);
            }
        }
        Kit.due("klass(3, 0)", x.klass(3, 0), -1);
        Kit.due("klass(-1, 0)", x.klass(-1, 0), -1);
        Kit.due("klass(0, 5)", x.klass(0, 5), -1);
        Kit.due("klass(0, 9)", x.klass(0, 9), -1);
        Kit.due("klass(0, -1)", x.klass(0, -1), -1);
        Kit.due("klass(0, 14)", x.klass(0, 14), -1);
        Kit.due("klass(0, 2147483647)", x.klass(0, 2147483647), -1);
        Kit.due("klass(99, 10)", x.klass(99, 10), 0);
        x.run(1);
        Kit.due("B has begun", x.klass(1, 0), 1);
        Kit.due("by thread 0", x.klass(1, 1), 0);
        x.run(3);
        Kit.due("B has failed", x.klass(1, 0), 3);
        Kit.due("by none", x.klass(1, 1), -1);
        Kit.due("dead by -13", x.thread(0, 8), -13);
        FrostHouse y = Kit.house("class A { static int a = -5; static text b; static row c = new row[1]; static void main() { A.b = null; } }", 1);
        y.run(100);
        Kit.due("A is done", y.klass(0, 0), 2);
        Kit.due("an int", y.klass(-7, 10), -5);
        Kit.due("a null", y.klass(0, 11), 0);
        Kit.due("a row", y.klass(0, 12), 1);
    }
}
