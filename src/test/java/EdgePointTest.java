import java.util.Arrays;

/** Terms 3, BUILT-INS and CHECKPOINT: one test for each sentence that names an edge. */
public final class EdgePointTest {
    private static final String R = "res class R { int k; void freeze() { print(100 + k); if (k > 50) throw k; } void thaw() { print(200 + k); if (k > 20 && k < 50) throw k; } "
        + "static R of(int k) { R r = new R(); r.k = k; return r; } } ";

    public static void main(String[] args) {
        printing();
        hashing();
        timing();
        handles();
        interning();
        registering();
        thirteenth();
        small();
        pointSteps();
        pointAlone();
        pointOfAnother();
        pointAbove();
        freezeFails();
        handleFails();
        twentyFailures();
        noFrame();
        thawFails();
        pointAgain();
        pointList();
        othersGoOn();
        imageOfPoint();
        throwsAreCaught();
        failuresOfTheLatest();
        whichMethods();
        Kit.done();
    }

    private static void prints(String body, String want) {
        Kit.due(body, Kit.printed("class A { A n; static A l = new A(); static text t; static row w; static void main() { " + body + " } }", 9), want);
    }

    private static FrostHouse house(String main) {
        return Kit.house(R + "class A { static R a; static R b; static R c; static int g; static void deep(int n) { if (n > 1) { deep(n - 1); return; } print(checkpoint()); } static void main() { " + main + " } }", 50);
    }

    /** Runs, and thaws whenever it is frozen, with a 0 in what is told for each time. */
    private static String through(FrostHouse x) {
        StringBuilder all = new StringBuilder();
        int seen = 0;
        for (int i = 0; i < 10; i++) {
            x.run(20000);
            String out = Kit.out(x);
            all.append(out.substring(seen));
            seen = out.length();
            if (x.about(0) != 2) {
                break;
            }
            all.append("FROZEN|");
            x.thaw();
        }
        return all.toString();
    }

    // "print: digits (- ahead), or the text's bytes (null: null), and a 10 come to OUT: 0."
    private static void printing() {
        prints("print(0); print(-0); print(7); print(-7); print(2147483647); print(-2147483647 - 1); print(1000000000); print(-10);", "0|0|7|-7|2147483647|-2147483648|1000000000|-10|");
        prints("print(\"\"); print(\"null\"); print(t); print(null); print(\" a \"); print(print(\"x\")); print(print(5));", "|null|null|null| a |x|0|5|0|");
    }

    private static int hash(int nth) {
        int seed = 1;
        for (int i = 0; i < nth; i++) {
            seed = seed * 1103515245 + 12345;
        }
        return seed >>> 1 | 1;
    }

    // "hash: of each object the same at all times: the SEED (1 at first) becomes itself * 1103515245 + 12345 the first time, hash is that >>> 1 | 1."
    private static void hashing() {
        prints("A a = new A(); A b = new A(); print(hash(b)); print(hash(a)); print(hash(\"x\")); w = new row[1]; print(hash(w)); print(hash(b)); print(hash(\"x\")); print(hash(\"x\" + \"\"));",
            hash(1) + "|" + hash(2) + "|" + hash(3) + "|" + hash(4) + "|" + hash(1) + "|" + hash(3) + "|" + hash(5) + "|");
        prints("try { hash(t); } catch (e) { print(e); } print(hash(l));", "-1|" + hash(1) + "|");
        // Behind a restore it is the same still, and the SEED goes on.
        FrostHouse x = Kit.house("class A { static A l = new A(); static void main() { print(hash(l)); sleep(9); print(hash(l)); print(hash(new A())); } }", 9);
        x.run(10);
        x.freeze();
        x.take();
        x.restore(0, 0);
        x.run(100);
        Kit.due("behind a restore", Kit.out(x), hash(1) + "|" + hash(2) + "|");
        Kit.due("all are odd and above 0", hash(1) > 0 && (hash(1) & 1) == 1, true);
    }

    // "time: the CLOCK's lowest 32 bits."
    private static void timing() {
        FrostHouse x = Kit.house("class A { static void main() { print(time()); } }", 9);
        x.freeze();
        x.take();
        for (long clock : new long[] {0L, 2147483647L, 2147483648L, 4294967295L, 4294967296L, 4000000000000000000L}) {
            x.restore(clock, 0);
            x.run(9);
            Kit.due("at " + clock, Kit.out(x), (int) clock + "|");
        }
    }

    // "open: the least handle of 0 .. 7 that is free; close: 1 if it was open"; "-11 a ninth .. handle".
    private static void handles() {
        prints("print(close(0)); int i = 0; while (i < 8) { print(open()); i = i + 1; } try { print(open()); } catch (e) { print(e); } print(close(7)); print(close(7)); print(close(3)); print(close(0)); print(open()); print(open()); print(open());",
            "0|0|1|2|3|4|5|6|7|-11|1|0|1|1|0|3|7|");
        prints("print(close(-1)); print(close(8)); print(close(32)); print(close(2147483647)); open(); print(close(32)); print(close(-32)); print(close(0));", "0|0|0|0|0|0|1|");
    }

    // "TEXT k: the interned text of these bytes; if there is none it is made, and interned. intern(t): likewise, but t itself is interned if there is none."
    private static void interning() {
        prints("t = \"a\" + \"b\"; print(intern(t) == t); print(\"ab\" == t); print(intern(\"a\" + \"b\") == t);", "1|1|1|");
        prints("t = \"ab\"; print(intern(\"a\" + \"b\") == t); print(\"a\" + \"b\" == t); print(\"ab\" == t);", "1|0|1|");
        prints("print(\"\" == intern(\"\" + \"\")); print(intern(\"\") == \"\"); print(intern(\"A\") == \"a\"); print(intern(\"a \") == \"a\"); print(intern(\"ab\") == intern(\"ba\"));", "1|1|0|0|0|");
        prints("try { intern(t); } catch (e) { print(e); } try { intern(null); } catch (e) { print(e); }", "-1|-1|");
        FrostHouse x = Kit.house("class A { static void main() { print(\"a\"); print(\"a\"); print(\"\"); print(intern(\"a\" + \"a\")); print(\"aa\"); } }", 9);
        x.run(100);
        Kit.due("each once", x.about(8), 3);
    }

    // "register: 1; 0 if it is registered."
    private static void registering() {
        FrostHouse x = house("a = R.of(1); b = R.of(2); print(register(a)); print(register(b)); print(register(a)); print(register(b)); a = null; print(register(R.of(1))); try { print(register(a)); } catch (e) { print(e); } sleep(9);");
        x.run(20000);
        Kit.due("registered", Kit.out(x), "1|1|0|0|1|-1|");
        Kit.due("that can be reached", x.about(7), 1);
    }

    // "-7 .. a 13th resource".
    private static void thirteenth() {
        String many = "res class R { R n; void freeze() { } void thaw() { } } class A { static R l; static int i; static void more(int n) { while (n > 0) { R r = new R(); r.n = l; l = r; register(r); n = n - 1; } } static void main() { ";
        FrostHouse x = Kit.house(many + "more(12); print(1); try { more(1); } catch (e) { print(e); } print(register(l.n.n)); print(register(l.n)); } }", 9);
        x.run(20000);
        Kit.due("twelve", Kit.out(x), "1|-7|0|0|");
        Kit.due("are registered", x.about(7), 12);
        // Those that can't be reached any more make room.
        FrostHouse y = Kit.house(many + "more(12); l = l.n; more(1); print(2); l = null; more(12); print(3); try { more(1); } catch (e) { print(e); } } }", 9);
        y.run(20000);
        Kit.due("room", Kit.out(y), "2|3|-7|");
    }

    // "me: the thread's number. arg: ARG. len: bytes, ints. failures, failure(k): of the latest checkpoint."
    private static void small() {
        prints("print(me()); print(arg()); print(len(\"abc\")); print(len(new row[9])); print(failures()); try { failure(0); } catch (e) { print(e); } try { len(t); } catch (e) { print(e); } try { len(w); } catch (e) { print(e); }", "0|0|3|9|0|-3|-1|-1|");
    }

    // "checkpoint(), each time that it is a STEP: none goes on: it is this thread's from now on .. Its own, again: the next one of LIST, the last first, is called .. (a STEP that calls none)".
    private static void pointSteps() {
        FrostHouse x = Kit.house("res class R { void freeze() { } void thaw() { } } class A { static R a = new R(); static R b = new R(); static void main() { register(b); register(a); checkpoint(); print(7); } }", 50);
        while (x.about(11) != 0) {
            x.run(1);
        }
        Kit.due("phase 1, none called", Arrays.toString(Image.of(x).sections[8]), "[0, 0, 1, 0, 2, 2, 1, 2, 2, 1, 0]");
        Kit.due("no frame yet", x.thread(0, 1), 1);
        x.run(1);
        Kit.due("the last one first", Arrays.toString(Image.of(x).sections[8]), "[0, 0, 1, 1, 2, 2, 1, 2, 2, 1, 0]");
        Kit.due("its freeze", x.thread(0, 2), 0);
        x.run(1);
        Kit.due("it returned", x.thread(0, 1), 1);
        x.run(2);
        Kit.due("both were called", Image.of(x).sections[8][3], 2);
        Kit.due("it goes on", x.about(0), 1);
        Kit.due("a step that calls none", x.run(1), 1);
        Kit.due("frozen", x.about(0), 2);
        Kit.due("no step", x.run(1), 0);
        Kit.due("phase 3, none called", Arrays.toString(Image.of(x).sections[8]), "[0, 0, 3, 0, 2, 2, 1, 2, 2, 1, 0]");
        x.thaw();
        x.run(1);
        Kit.due("its thaw", x.thread(0, 2), 1);
        x.run(3);
        Kit.due("both were called", Arrays.toString(Image.of(x).sections[8]), "[0, 0, 3, 2, 2, 2, 1, 2, 2, 1, 0]");
        Kit.due("not over yet", x.about(11), 0);
        x.run(1);
        Kit.due("over", x.about(11), -1);
        Kit.due("1", x.thread(0, 4), 1);
    }

    private static void pointAlone() {
        FrostHouse x = Kit.house("class A { static void main() { print(checkpoint()); } }", 50);
        Kit.due("two steps without a resource", x.run(100), 2);
        Kit.due("frozen", x.about(0), 2);
        Kit.due("an image, made by a run of one step, too", x.about(2) > 0, true);
        x.thaw();
        Kit.due("one to be over, then print, DROP, RETURN", x.run(100), 4);
        Kit.due("1", Kit.out(x), "1|");
        FrostHouse y = Kit.house("class A { static void main() { print(checkpoint()); } }", 50);
        y.run(1);
        Kit.due("no image yet", y.about(2), 0);
        y.run(1);
        Kit.due("an image behind this one step", y.about(2) > 0, true);
    }

    // "One of another thread .. -9, and nothing else."
    private static void pointOfAnother() {
        FrostHouse x = Kit.house("res class R { void freeze() { sleep(100); throw 5; } void thaw() { } } class A { static R a = new R(); static void f() { try { checkpoint(); } catch (e) { print(e); } print(failures()); } "
            + "static void main() { register(a); spawn f(); sleep(1); try { checkpoint(); } catch (e) { print(e); } print(failures()); print(failure(0)); } }", 50);
        x.run(20000);
        Kit.due("the other's is refused, the first one's goes on", Kit.out(x).equals("-9|0|-9|1|5|"), true);
    }

    // "or of a FRAME above its own: -9, and nothing else."
    private static void pointAbove() {
        FrostHouse x = Kit.house("res class R { void freeze() { try { checkpoint(); } catch (e) { print(e); } } void thaw() { checkpoint(); } } class A { static R a = new R(); static void main() { register(a); try { print(checkpoint()); } catch (e) { print(e); } print(failures()); print(failure(0)); } }", 50);
        Kit.due("caught in freeze, a failure of thaw", through(x), "-9|FROZEN|-10|1|-9|");
    }

    // "else one by one, the first one first, thaw is called; when all were it is over: -9."
    private static void freezeFails() {
        FrostHouse x = house("a = R.of(1); b = R.of(61); c = R.of(3); register(a); register(b); register(c); try { print(checkpoint()); } catch (e) { print(e); } print(failures()); print(failure(0));");
        Kit.due("all are called, and called back", through(x), "103|161|101|201|261|203|-9|1|61|");
        FrostHouse y = house("a = R.of(61); b = R.of(62); register(a); register(b); try { checkpoint(); } catch (e) { print(failure(0)); print(failure(1)); try { failure(2); } catch (g) { print(g); } }");
        Kit.due("in their order", through(y), "162|161|261|262|62|61|-3|");
    }

    // "for each open handle h 100 + h is a failure".
    private static void handleFails() {
        FrostHouse x = house("open(); open(); open(); close(1); a = R.of(61); register(a); try { checkpoint(); } catch (e) { print(e); } print(failures()); print(failure(0)); print(failure(1)); print(failure(2)); close(0); close(2); a.k = 1; print(checkpoint());");
        Kit.due("behind those of freezes", through(x), "161|261|-9|3|61|100|102|101|FROZEN|201|1|");
        FrostHouse y = house("int i = 0; while (i < 8) { i = i + 1; open(); } try { checkpoint(); } catch (e) { print(failures()); print(failure(0)); print(failure(7)); }");
        Kit.due("eight", through(y), "8|100|107|");
        // One that is opened in a freeze counts, one that is closed there does not; in a thaw none matters.
        FrostHouse z = Kit.house("res class R { void freeze() { print(close(0)); } void thaw() { print(open()); } } class A { static R a = new R(); static void main() { register(a); open(); print(checkpoint()); } }", 50);
        Kit.due("closed ahead of the image", through(z), "1|FROZEN|0|1|");
        FrostHouse u = Kit.house("res class R { void freeze() { open(); } void thaw() { close(0); } } class A { static R a = new R(); static void main() { register(a); try { checkpoint(); } catch (e) { print(e); print(failure(0)); } } }", 50);
        Kit.due("opened ahead of the image", through(u), "-9|100|");
    }

    // "(the first 20; others are lost)".
    private static void twentyFailures() {
        String text = "res class R { R n; int k; void freeze() { throw k; } void thaw() { throw 50 + k; } } class A { static R l; static int i; static void main() { while (i < ?) { R r = new R(); r.n = l; r.k = i; l = r; register(r); i = i + 1; } "
            + "try { checkpoint(); } catch (e) { print(e); } print(failures()); print(failure(failures() - 1)); } }";
        Kit.due("twenty of twenty", through(Kit.house(text.replace("?", "10"), 50)), "-9|20|59|");
        Kit.due("of twenty-two", through(Kit.house(text.replace("?", "11"), 50)), "-9|20|58|");
        Kit.due("of twenty-four", through(Kit.house(text.replace("?", "12"), 50)), "-9|20|57|");
    }

    // "(A FRAME more than 30: -8 is that one's failure.)"
    private static void noFrame() {
        FrostHouse x = house("a = R.of(1); register(a); try { deep(29); } catch (e) { print(e); } print(failures()); print(failure(0)); print(failure(1)); deep(28);");
        Kit.due("for freeze, and for thaw", through(x), "-9|2|-8|-8|101|FROZEN|201|1|");
        // The call of it is a step all the same.
        FrostHouse y = house("a = R.of(1); register(a); deep(29);");
        while (y.about(11) != 0) {
            y.run(1);
        }
        y.run(1);
        Kit.due("called", Image.of(y).sections[8][3], 1);
        Kit.due("a failure", y.about(10), 1);
        Kit.due("no frame", y.thread(0, 1), 30);
    }

    // "Behind an image likewise thaw of each; then it is over: 1, or, if there are failures since, -10."
    private static void thawFails() {
        FrostHouse x = house("a = R.of(1); b = R.of(31); c = R.of(32); register(a); register(b); register(c); try { print(checkpoint()); } catch (e) { print(e); } print(failures()); print(failure(0)); print(failure(1));");
        Kit.due("all are called", through(x), "132|131|101|FROZEN|201|231|232|-10|2|31|32|");
        x.take();
        x.restore(5, 0);
        x.run(20000);
        Kit.due("behind a restore, too", Kit.out(x), "201|231|232|-10|2|31|32|");
    }

    // "it is over": another one may begin.
    private static void pointAgain() {
        FrostHouse x = house("a = R.of(1); register(a); print(checkpoint()); print(checkpoint()); a = null; print(checkpoint());");
        Kit.due("three", through(x), "101|FROZEN|201|1|101|FROZEN|201|1|FROZEN|1|");
    }

    // "its LIST all registered ones that can be reached, in order".
    private static void pointList() {
        FrostHouse x = Kit.house("res class R { int k; void freeze() { print(k); A.more(); } void thaw() { print(k + 100); } } class A { static R a; static R b; static void more() { b = new R(); b.k = 9; register(b); } "
            + "static R of(int k) { R r = new R(); r.k = k; register(r); return r; } static void main() { a = of(1); of(2); b = of(3); print(checkpoint()); print(checkpoint()); } }", 50);
        // 2 can't be reached; 9 comes while it goes on, and is in the next one's.
        Kit.due("lists", through(x), "3|1|FROZEN|101|103|1|9|1|FROZEN|101|109|1|");
    }

    // Other threads take their turns while a checkpoint goes on, and none while the machine is FROZEN.
    private static void othersGoOn() {
        FrostHouse x = Kit.house("res class R { void freeze() { sleep(50); } void thaw() { } } class A { static R a = new R(); static int g; static void f() { while (1) { g = g + 1; } } static void main() { register(a); spawn f(); checkpoint(); } }", 2);
        while (x.about(11) != 0) {
            x.run(1);
        }
        int before = x.klass(1, 11);
        x.run(60);
        Kit.due("they go on", x.klass(1, 11) > before, true);
        x.run(20000);
        Kit.due("frozen", x.about(0), 2);
        before = x.klass(1, 11);
        x.run(20);
        Kit.due("they don't", x.klass(1, 11), before);
    }

    // "the machine is FROZEN, with an image of its state (its thaws are due)".
    private static void imageOfPoint() {
        FrostHouse x = house("a = R.of(1); register(a); print(checkpoint());");
        Kit.due("no image", x.about(2), 0);
        x.run(20000);
        byte[] image = Kit.image(x);
        x.freeze();
        Kit.due("as freeze() would tell it", Arrays.equals(image, Kit.image(x)), true);
        Image parts = new Image(image);
        Kit.due("thaws are due", parts.sections[8][2], 3);
        // It takes the place of an earlier one.
        FrostHouse y = Kit.house("class A { static void main() { sleep(1); checkpoint(); while (1) { } } }", 50);
        y.freeze();
        byte[] first = Kit.image(y);
        y.run(100);
        Kit.due("frozen", y.about(0), 2);
        Kit.due("another image", Arrays.equals(first, Kit.image(y)), false);
        // One that is refused makes none.
        FrostHouse z = house("open(); try { checkpoint(); } catch (e) { print(e); }");
        z.run(20000);
        Kit.due("refused", Kit.out(z) + z.about(2), "-9|0");
    }

    // "What these FRAMES throw, and don't catch, is a failure": also from calls and classes above them.
    private static void throwsAreCaught() {
        FrostHouse x = Kit.house("class B { static int x = 1 / 0; } res class R { void freeze() { print(B.x); } void thaw() { m(); } void m() { throw 7; } } class A { static R a = new R(); static void main() { register(a); try { checkpoint(); } catch (e) { print(e); } print(failures()); print(failure(0)); print(failure(1)); } }", 50);
        Kit.due("-13 of a class, 7 of a call", through(x), "-9|2|-13|7|");
        // Monitors that they hold are released.
        FrostHouse y = Kit.house("res class R { void freeze() { sync (A.a) { throw 1; } } void thaw() { } } class A { static R a = new R(); static void f() { sync (a) { print(2); } } static void main() { register(a); try { checkpoint(); } catch (e) { print(e); } spawn f(); sleep(20); } }", 50);
        Kit.due("released", through(y), "-9|2|");
    }

    // "there are no failures": a checkpoint that begins forgets those of the one ahead of it.
    private static void failuresOfTheLatest() {
        FrostHouse x = house("open(); try { checkpoint(); } catch (e) { } print(failures()); close(0); checkpoint(); print(failures()); try { failure(0); } catch (e) { print(e); }");
        Kit.due("failures", through(x), "1|FROZEN|0|-3|");
        FrostHouse y = house("open(); try { checkpoint(); } catch (e) { } sleep(9); checkpoint();");
        y.run(4);
        while (y.about(11) == 0) {
            y.run(1);
        }
        Kit.due("one", y.about(10), 1);
        while (y.about(11) != 0) {
            y.run(1);
        }
        Kit.due("none since it began", y.about(10), 0);
    }

    // "a FRAME of its freeze": whatever numbers its METHODS have, in each res class its own.
    private static void whichMethods() {
        FrostHouse x = Kit.house("class Z { void freeze() { print(0); } void thaw() { print(0); } } res class R { void a() { print(0); } void thaw() { print(12); } void b() { print(0); } void freeze() { print(11); } } "
            + "class A { static R r = new R(); static S s = new S(); static void main() { register(r); register(s); print(checkpoint()); } } res class S { void freeze() { print(21); } void thaw() { print(22); } void c() { print(0); } }", 50);
        Kit.due("each its own", through(x), "21|11|FROZEN|12|22|1|");
        x.take();
        Kit.due("restored", x.restore(0, 0), 0);
        x.run(1000);
        Kit.due("behind a restore", Kit.out(x), "12|22|1|");
    }
}
