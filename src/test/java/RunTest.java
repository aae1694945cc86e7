/** Promises 6, 7, 8, 9: run, about, clock, out; what instructions do, what is thrown, classes, room. */
public final class RunTest {
    public static void main(String[] args) {
        running();
        counting();
        texts();
        thrown();
        handlers();
        frames();
        classes();
        room();
        hashes();
        handles();
        outs();
        Kit.done();
    }

    private static String main(String body) {
        return Kit.printed("class A { int f; A n; static int s; static A l; static row w; static text t; int g(int x) { return x + f; } "
            + "static int h(int x) { if (x == 0) { return 0; } return 1 + h(x - 1); } static void main() { " + body + " } }", 7);
    }

    private static void prints(String body, String want) {
        Kit.due(body, main(body), want);
    }

    private static void throwsIt(String body, int want) {
        Kit.due(body, main("try { " + body + " print(77); } catch (e) { print(e); }"), want + "|");
    }

    private static void running() {
        FrostHouse x = new FrostHouse();
        Kit.due("run without a machine", x.run(5), 0);
        Kit.due("run(-1)", x.run(-1), -1);
        Kit.due("run(20001)", x.run(20001), -1);
        Kit.due("clock without a machine", x.clock(), -1);
        Kit.due("out without a machine", x.out(0), -1);
        for (int what = 0; what <= 14; what++) {
            Kit.due("about(" + what + ")", x.about(what), what == 11 || what == 12 ? -1 : 0);
        }
        Kit.due("about(15)", x.about(15), -1);
        Kit.due("about(-1)", x.about(-1), -1);
        Kit.load(x, "class A { static void main() { while (1) { } } } class B { void q() { } }", 3);
        Kit.due("about(0)", x.about(0), 1);
        Kit.due("clock", x.clock(), 0);
        Kit.due("run(0)", x.run(0), 0);
        Kit.due("run(20000)", x.run(20000), 20000);
        Kit.due("clock", x.clock(), 20000);
        Kit.due("about(4)", x.about(4), 1);
        Kit.due("about(5)", x.about(5), 0);
        Kit.due("about(11)", x.about(11), -1);
        Kit.due("about(12)", x.about(12), 0);
        Kit.due("about(13)", x.about(13), 2);
        Kit.due("about(14)", x.about(14), 2);
        Kit.due("about(15)", x.about(15), -1);
        Kit.due("about(-2147483648)", x.about(-2147483648), -1);
        Kit.load(x, "class A { static void main() { } }", 3);
        Kit.due("clock behind load", x.clock(), 0);
        Kit.due("run to the end", x.run(10), 1);
        Kit.due("about(0) ended", x.about(0), 3);
        Kit.due("about(5)", x.about(5), 1);
        Kit.due("run behind the end", x.run(10), 0);
        Kit.due("run(-5) behind the end", x.run(-5), -1);
        Kit.due("main of the first class that has one", Kit.printed("class A { void main() { } } class B { static void main() { print(2); } } "
            + "class C { static void main() { print(3); } }", 1), "2|");
    }

    private static void counting() {
        prints("print(2147483647 + 1); print(-2147483647 - 2); print(65536 * 65536 + 3); print(-(-2147483647 - 1));", "-2147483648|2147483647|3|-2147483648|");
        prints("int m = -2147483647 - 1; print(m / -1); print(m % -1); print(-7 / 2); print(-7 % 2); print(7 / -2); print(7 % -2);", "-2147483648|0|-3|-1|-3|1|");
        prints("print(!0); print(!5); print(!!-5); print(1 < 1); print(1 <= 1); print(2 > 1); print(1 >= 2); print(1 == 1); print(1 != 1);", "1|0|1|0|1|1|0|1|0|");
        prints("print(3 && -2); print(0 && 1 / 0); print(0 || 5); print(7 || 1 / 0); print(0 || 0); print(1 && 0);", "1|0|1|1|0|0|");
        prints("A a = new A(); A b = new A(); print(a == b); print(a == a); print(a != b); print(a.n == null); print(null == null);", "0|1|1|1|1|");
        prints("A a = new A(); a.f = 5; print(a.g(3)); a.n = a; print(a.n.n.g(1)); print(h(9)); s = 4; print(A.s); print(l == null);", "8|6|9|4|1|");
        prints("w = new row[3]; w[0] = 5; w[2] = w[0] * 2; print(w[0] + w[1] + w[2]); print(len(w)); print(len(new row[0])); print(len(new row[30]));", "15|3|0|30|");
        prints("int i = 0; while (i < 3) { if (i == 1) print(10); else print(i); i = i + 1; }", "0|10|2|");
        prints("print(time() == time()); print(arg()); print(me());", "0|0|0|");
    }

    private static void texts() {
        prints("print(\"\"); print(\"a b\"); print(t); text x = null; print(x); print(0); print(-12);", "|a b|null|null|0|-12|");
        prints("print(\"a\" + \"b\" + 1 + -2); print(1 + 2 + \"x\" + 1 + 2); print(\"\" + (-2147483647 - 1));", "ab1-2|3x12|-2147483648|");
        prints("print(\"a\" == \"a\"); text x = \"a\" + \"\"; print(x == \"a\"); print(intern(x) == \"a\"); print(x == intern(x));", "1|0|1|0|");
        prints("text x = \"a\" + \"b\"; print(intern(x) == x); print(x == \"ab\"); print(intern(\"a\" + \"b\") == x);", "1|1|1|");
        prints("print(len(\"abc\")); print(len(\"\")); text x = \"12345678901234567890\"; print(len(x + x));", "3|0|40|");
        FrostHouse x = Kit.house("class A { static void main() { print(\"a\"); print(\"b\" + \"a\"); intern(\"c\" + \"\"); print(\"a\"); } }", 1);
        x.run(100);
        Kit.due("interned ones: a, b, c and the empty one", x.about(8), 4);
        Kit.due("they are kept, the dead main is not", x.about(6), 4);
    }

    private static void thrown() {
        throwsIt("A a = null; a.f = 1;", -1);
        throwsIt("A a = null; print(a.f);", -1);
        throwsIt("A a = null; a.g(1 / 0);", -2);
        throwsIt("A a = null; a.g(1);", -1);
        throwsIt("w[0] = 1;", -1);
        throwsIt("print(w[0]);", -1);
        throwsIt("print(\"a\" + t);", -1);
        throwsIt("print(t + \"a\");", -1);
        throwsIt("print(t + 1);", -1);
        throwsIt("print(1 + t);", -1);
        throwsIt("sync (l) { }", -1);
        throwsIt("wait(l);", -1);
        throwsIt("wait(l, -1);", -1);
        throwsIt("notify(l);", -1);
        throwsIt("all(t);", -1);
        throwsIt("hash(l);", -1);
        throwsIt("intern(t);", -1);
        throwsIt("len(t);", -1);
        throwsIt("len(w);", -1);
        throwsIt("len(null);", -1);
        throwsIt("s = 1 / 0;", -2);
        throwsIt("s = 1 % 0;", -2);
        throwsIt("w = new row[3]; w[3] = 1;", -3);
        throwsIt("w = new row[3]; print(w[-1]);", -3);
        throwsIt("w = new row[0]; print(w[0]);", -3);
        throwsIt("failure(0);", -3);
        throwsIt("failure(-1);", -3);
        throwsIt("wait(new A());", -4);
        throwsIt("wait(\"\", -1);", -4);
        throwsIt("notify(new A());", -4);
        throwsIt("all(new A());", -4);
        throwsIt("interrupt(0); sleep(0);", -5);
        throwsIt("interrupt(0); sleep(-1);", -12);
        throwsIt("interrupt(0); join(0);", -5);
        throwsIt("interrupt(0); join(1);", -11);
        throwsIt("l = new A(); interrupt(0); sync (l) { wait(l, 0); }", -5);
        throwsIt("l = new A(); interrupt(0); sync (l) { wait(l, -1); }", -12);
        throwsIt("h(29);", -8);
        throwsIt("join(-1);", -11);
        throwsIt("w = new row[31];", -12);
        throwsIt("w = new row[-1];", -12);
        throwsIt("sleep(-1);", -12);
        throwsIt("t = \"123456789012345678901\" + \"12345678901234567890\";", -14);
        throwsIt("t = \"123456789012345678901234\" + \"1234567890123456\" + 1;", -14);
        throwsIt("throw 123;", 123);
        throwsIt("throw 0;", 0);
        FrostHouse x = Kit.house("class A { static void main() { throw 7; } }", 1);
        x.run(10);
        Kit.due("dead by what is thrown", x.thread(0, 8), 7);
        Kit.due("its state", x.thread(0, 0), 7);
    }

    private static void handlers() {
        prints("try { try { throw 1; } catch (a) { print(a); throw 2; } } catch (b) { print(b); }", "1|2|");
        prints("try { try { print(0); } catch (a) { print(a); } throw 3; } catch (b) { print(b); }", "0|3|");
        prints("try { h(1 / 0); } catch (b) { print(b); } try { throw 4; } catch (b) { print(b); } print(5);", "-2|4|5|");
        prints("int i = 0; while (i < 2) { i = i + 1; try { if (i == 1) throw 9; print(i); } catch (e) { print(e); } }", "9|2|");
        Kit.due("through frames", Kit.printed("class A { static void f() { g(); print(1); } static void g() { try { print(2); } catch (e) { print(3); } throw 4; } "
            + "static void main() { try { f(); } catch (e) { print(e); } } }", 2), "2|4|");
        FrostHouse x = Kit.house("class A { static A a = new A(); static void f() { sync (a) { sync (\"x\") { throw 1; } } } "
            + "static void main() { sync (a) { try { sync (a) { f(); } } catch (e) { print(e); sleep(1); } print(2); } } }", 3);
        int most = 0;
        for (int i = 0; i < 60 && x.about(3) == 0; i++) {
            most = Math.max(most, x.thread(0, 6));
            x.run(1);
        }
        Kit.due("held at the most", most, 2);
        Kit.due("held since the try are released", x.thread(0, 6), 1);
        x.run(100);
        Kit.due("goes on", Kit.out(x), "1|2|");
    }

    private static void frames() {
        prints("try { print(h(28)); print(h(29)); } catch (e) { print(e); }", "28|-8|");
        FrostHouse x = Kit.house("class A { static int h(int x) { return h(x + 1); } static void main() { h(0); } }", 1);
        int most = 0;
        for (int i = 0; i < 200; i++) {
            most = Math.max(most, x.thread(0, 1));
            x.run(1);
        }
        Kit.due("frames at the most", most, 30);
        Kit.due("dead by", x.thread(0, 8), -8);
        Kit.due("an initialiser without room", Kit.printed("class A { static void h(int x) { if (x == 0) { B.q = 1; return; } h(x - 1); } "
            + "static void main() { try { h(28); } catch (e) { print(e); } h(20); print(B.q); } } class B { static int q = 5; }", 1), "-8|1|");
    }

    private static void classes() {
        String two = "class B { static int x = A.y + 1; static int z = 1 / 0; } class A { static int y = 4; static void main() { ";
        Kit.due("a class that fails", Kit.printed(two + "try { print(B.x); } catch (e) { print(e); } try { B.x = 1; } catch (e) { print(e); } "
            + "try { B b = new B(); } catch (e) { print(e); } } }", 1), "-13|-13|-13|");
        Kit.due("each way to want", Kit.printed("class B { static int x = print(1); } class C { static int x = print(2); static void f() { } } "
            + "class D { static int x = print(3); } class E { static int x = print(4); static void f() { } } class F { static int x = print(5); } "
            + "class A { static int x = print(6); static void main() { B.x = 1; C.f(); D d = new D(); spawn E.f(); print(F.x); print(7); A.x = 1; } }", 1),
            "1|2|3|4|5|0|7|6|");
        Kit.due("its own initialiser may use it", Kit.printed("class A { static int x = A.y; static int y = f(3); static int f(int q) { A a = new A(); return q + y; } "
            + "static void main() { print(x); print(y); } }", 1), "0|3|");
        Kit.due("a throw in an initialiser's call", Kit.printed("class B { static int x = f(); static int f() { throw 5; } } "
            + "class A { static void main() { try { print(B.x); } catch (e) { print(e); } } }", 1), "-13|");
        FrostHouse x = Kit.house("class B { static int x = sleep(20) + 6; } class A { static void f() { print(B.x); } "
            + "static void main() { spawn f(); spawn f(); print(B.x); } }", 1);
        Kit.due("others wait for a class", mostWaiting(x), 2);
        x.run(100);
        Kit.due("then they have it", Kit.out(x), "6|6|6|");
        FrostHouse y = Kit.house("class B { static int x = 1 / sleep(20); } class A { static void f() { try { print(B.x); } catch (e) { print(e); } } "
            + "static void main() { spawn f(); f(); } }", 1);
        Kit.due("one waits for a class", mostWaiting(y), 1);
        y.run(100);
        Kit.due("that fails", Kit.out(y), "-13|-13|");
        FrostHouse z = Kit.house("class B { static int x = C.y; } class C { static int y = sleep(5) + B.x; } class A { static void f() { print(C.y); } "
            + "static void main() { spawn f(); sleep(2); print(B.x); } }", 1);
        z.run(500);
        Kit.due("two that wait for each other are stuck", z.about(0), 4);
        Kit.due("run behind that", z.run(5), 0);
    }

    /** How many threads at once wait for a class, at the most. */
    private static int mostWaiting(FrostHouse x) {
        int most = 0;
        for (int i = 0; i < 60; i++) {
            int waiting = 0;
            for (int t = 0; t < 8; t++) {
                waiting += x.thread(t, 0) == 6 ? 1 : 0;
            }
            most = Math.max(most, waiting);
            x.run(1);
        }
        return most;
    }

    private static void room() {
        String list = "class A { A n; static A l; static int c; static void add() { A x = new A(); x.n = l; l = x; c = c + 1; } static int two(A a, A b) { return 1; } ";
        FrostHouse x = Kit.house(list + "static void main() { try { while (1) { add(); } } catch (e) { print(e); print(c); } "
            + "try { row r = new row[31]; } catch (e) { print(e); } try { row r = new row[30]; } catch (e) { print(e); } "
            + "try { print(\"a\"); } catch (e) { print(e); } l = l.n; l = l.n; print(\"a\"); print(\"a\" + 1); try { A a = new A(); two(a, a); two(a, new A()); } "
            + "catch (e) { print(e); } sleep(1000); } }", 5);
        x.run(20000);
        Kit.due("200 are the most", Kit.out(x), "-7|200|-12|-7|-7|a|a1|-7|");
        FrostHouse y = Kit.house(list + "static void main() { while (c < 2000) { A a = new A(); c = c + 1; } print(c); while (1) { } } }", 5);
        y.run(20000);
        y.run(20000);
        Kit.due("what can't be reached does not count", Kit.out(y), "2000|");
        Kit.due("none is reached", y.about(6), 0);
        FrostHouse z = Kit.house(list + "static void main() { while (c < 199) { add(); } try { print(two(new A(), new A())); } catch (e) { print(e); } "
            + "print(two(new A(), null)); text t = \"1\"; try { t = t + 1; } catch (e) { print(e); } } }", 5);
        z.run(20000);
        Kit.due("what stands on the stack counts", Kit.out(z), "-7|1|-7|");
        FrostHouse u = Kit.house("class A { static void main() { row r = new row[1]; { row s = new row[2]; row q = s; } sleep(5); row v = new row[3]; sleep(5); } }", 1);
        u.run(10);
        Kit.due("variables in sight count", u.about(6), 1);
        u.run(4);
        Kit.due("variables in sight count", u.about(6), 2);
    }

    private static void hashes() {
        int one = 1103515245 + 12345;
        int two = one * 1103515245 + 12345;
        Kit.due("hashes", main("A a = new A(); A b = new A(); print(hash(b)); print(hash(a)); print(hash(b)); print(hash(\"x\") == hash(\"x\"));"),
            (one >>> 1 | 1) + "|" + (two >>> 1 | 1) + "|" + (one >>> 1 | 1) + "|1|");
    }

    private static void handles() {
        prints("print(open()); print(open()); print(close(0)); print(close(0)); print(open()); print(close(7)); print(close(8)); print(close(-1)); print(close(33));",
            "0|1|1|0|0|0|0|0|0|");
        FrostHouse x = Kit.house("class A { static void main() { int i = 0; while (i < 8) { print(open()); i = i + 1; } try { open(); } catch (e) { print(e); } "
            + "close(5); print(open()); } }", 1);
        x.run(1000);
        Kit.due("eight handles", Kit.out(x), "0|1|2|3|4|5|6|7|-11|5|");
        Kit.due("open ones", x.about(9), 8);
        Kit.due("freeze with open ones", x.freeze(), -1);
        Kit.load(x, "class A { static void main() { } }", 1);
        Kit.due("behind load", x.about(9), 0);
    }

    private static void outs() {
        FrostHouse x = Kit.house("class A { static void main() { int i = 1000; while (i < 3000) { print(i); i = i + 1; } } }", 1);
        x.run(20000);
        x.run(20000);
        Kit.due("bytes that came", x.about(3), 10000);
        Kit.due("the last one kept", x.out(3999), 10);
        Kit.due("the one ahead of it", x.out(3998), '9');
        Kit.due("none is kept behind", x.out(4000), -1);
        Kit.due("out(-1)", x.out(-1), -1);
        Kit.load(x, "class A { static void main() { } }", 1);
        Kit.due("behind load", x.about(3), 0);
        Kit.due("behind load", x.out(0), -1);
    }
}
