/** Promise 16, thaw, and checkpoints: resources called back ahead of an image and behind it. */
public final class CheckpointTest {
    private static final String R = "res class R { int k; int bad; void freeze() { print(100 + k); if (bad == 1) throw 40 + k; } "
        + "void thaw() { print(200 + k); if (bad == 2) throw 50 + k; } static R of(int k, int bad) { R r = new R(); r.k = k; r.bad = bad; return r; } } ";

    public static void main(String[] args) {
        order();
        refused();
        thawFails();
        another();
        registering();
        manyFailures();
        noFrame();
        steps();
        thawing();
        Kit.done();
    }

    private static FrostHouse house(String main) {
        return Kit.house(R + "class A { static R a; static R b; static R c; static row w = new row[9]; static void deep(int n) { if (n > 0) { deep(n - 1); } else { print(checkpoint()); } } "
            + "static void other() { try { checkpoint(); } catch (e) { print(e); } } static void main() { " + main + " } }", 50);
    }

    private static void order() {
        FrostHouse x = house("a = R.of(1, 0); b = R.of(2, 0); register(b); register(a); register(R.of(3, 0)); print(checkpoint()); print(failures());");
        x.run(20000);
        Kit.due("frozen", x.about(0), 2);
        Kit.due("freezes, the last first", Kit.out(x), "101|102|");
        Kit.due("registered ones that can be reached", x.about(7), 2);
        Kit.due("its thread", x.about(11), 0);
        Kit.due("no step while frozen", x.run(100), 0);
        Kit.due("an image", x.about(2) > 300, true);
        byte[] first = Kit.image(x);
        Kit.due("freeze tells the same", x.freeze(), first.length);
        Kit.due("freeze tells the same", java.util.Arrays.equals(first, Kit.image(x)), true);
        Kit.due("thaw", x.thaw(), true);
        Kit.due("goes on", x.about(0), 1);
        Kit.due("thaw again", x.thaw(), false);
        x.run(20000);
        Kit.due("thaws, the first first", Kit.out(x), "101|102|202|201|1|0|");
        Kit.due("none goes on", x.about(11), -1);
        x.take();
        Kit.due("restore", x.restore(5, 6), 0);
        Kit.due("not frozen then", x.about(0), 1);
        x.run(20000);
        Kit.due("goes on behind", Kit.out(x), "202|201|1|0|");
    }

    private static void refused() {
        FrostHouse x = house("a = R.of(1, 1); b = R.of(2, 0); register(a); register(b); open(); open(); close(0); try { print(checkpoint()); } catch (e) { print(e); } "
            + "print(failures()); print(failure(0)); print(failure(1)); close(1); a.bad = 0; print(checkpoint());");
        x.run(20000);
        Kit.due("refused, then not", Kit.out(x), "102|101|201|202|-9|2|41|101|102|101|");
        Kit.due("frozen", x.about(0), 2);
        Kit.due("failures", x.about(10), 0);
        FrostHouse y = house("open(); checkpoint();");
        y.run(20000);
        Kit.due("dead by -9", y.thread(0, 8), -9);
        Kit.due("a handle's failure", y.about(10), 1);
        Kit.due("no image", y.about(2), 0);
        FrostHouse z = house("a = R.of(1, 1); a.bad = 2; register(a); open(); try { checkpoint(); } catch (e) { print(e); } print(failures()); print(failure(1));");
        z.run(20000);
        Kit.due("thaws of a refused one fail, too", Kit.out(z), "101|201|-9|2|51|");
    }

    private static void thawFails() {
        FrostHouse x = house("a = R.of(1, 2); b = R.of(2, 0); register(a); register(b); try { print(checkpoint()); } catch (e) { print(e); } print(failures()); print(failure(0));");
        x.run(20000);
        x.thaw();
        x.run(20000);
        Kit.due("a thaw throws", Kit.out(x), "102|101|201|202|-10|1|51|");
        FrostHouse y = house("a = R.of(1, 0); register(a); try { checkpoint(); } catch (e) { print(e); } try { checkpoint(); } catch (e) { print(e); }");
        y.run(20000);
        y.thaw();
        y.run(20000);
        Kit.due("a second one", y.about(0), 2);
    }

    private static void another() {
        FrostHouse x = Kit.house("res class R { void freeze() { spawn A.other(); sleep(30); try { checkpoint(); } catch (e) { print(e); } checkpoint(); } void thaw() { } } "
            + "class A { static R a = new R(); static void other() { try { checkpoint(); } catch (e) { print(1000 + e); } } static void main() { register(a); "
            + "try { checkpoint(); } catch (e) { print(e); } print(failure(0)); } }", 5);
        x.run(20000);
        Kit.due("of another thread, of a frame above", Kit.out(x), "991|-9|-9|-9|");
        Kit.due("the machine has ended", x.about(0), 3);
    }

    private static void registering() {
        FrostHouse x = house("int i = 0; a = new R(); print(register(a)); print(register(a)); while (i < 30) { print(register(new R()) + i); i = i + 1; } "
            + "try { print(register(b)); } catch (e) { print(e); }");
        x.run(20000);
        StringBuilder want = new StringBuilder("1|0|");
        for (int i = 1; i <= 30; i++) {
            want.append(i).append("|");
        }
        Kit.due("those that can't be reached make room", Kit.out(x), want + "-1|");
        Kit.due("reached", x.about(7), 1);
        FrostHouse y = Kit.house("res class R { R n; void freeze() { } void thaw() { } } class A { static R l; static int i; static void main() { try { while (1) { "
            + "R r = new R(); r.n = l; l = r; register(r); i = i + 1; } } catch (e) { print(e); print(i); } print(register(l.n)); } }", 5);
        y.run(20000);
        Kit.due("a 13th resource", Kit.out(y), "-7|12|0|");
    }

    private static void manyFailures() {
        FrostHouse x = Kit.house("res class R { R n; int k; void freeze() { throw k; } void thaw() { throw 1000; } } class A { static R l; static int i; static void main() { "
            + "while (i < 12) { R r = new R(); r.n = l; l = r; r.k = i; register(r); i = i + 1; } i = 0; while (i < 8) { i = i + 1; open(); } "
            + "try { checkpoint(); } catch (e) { print(e); print(failures()); } print(failure(0)); print(failure(11)); print(failure(12)); print(failure(19)); failure(20); } }", 50);
        x.run(20000);
        Kit.due("20 are kept", Kit.out(x), "-9|20|11|0|100|107|");
        Kit.due("dead by", x.thread(0, 8), -3);
        Kit.due("about(10)", x.about(10), 20);
    }

    private static void noFrame() {
        FrostHouse x = house("a = R.of(1, 0); b = R.of(2, 0); register(a); register(b); try { deep(28); } catch (e) { print(e); } print(failures()); print(failure(1)); deep(27);");
        x.run(20000);
        Kit.due("no frame for its freeze", Kit.out(x), "-9|4|-8|102|101|");
        Kit.due("then there is one", x.about(0), 2);
    }

    private static void steps() {
        FrostHouse x = Kit.house("res class R { void freeze() { } void thaw() { } } class A { static R a = new R(); static void main() { register(a); checkpoint(); } }", 50);
        while (x.thread(0, 3) != 3 || x.thread(0, 2) != 2) {
            x.run(1);
        }
        Kit.due("none goes on", x.about(11), -1);
        x.run(1);
        Kit.due("it is this thread's", x.about(11), 0);
        Kit.due("nothing is called yet", x.thread(0, 1), 1);
        x.run(1);
        Kit.due("freeze is called", x.thread(0, 2), 0);
        Kit.due("frames", x.thread(0, 1), 2);
        Kit.due("it returns, and a step calls none", x.run(100), 2);
        Kit.due("frozen", x.about(0), 2);
        x.thaw();
        x.run(1);
        Kit.due("thaw is called", x.thread(0, 2), 1);
        x.run(1);
        Kit.due("it is over in a step", x.about(11), 0);
        x.run(1);
        Kit.due("it is over in a step", x.about(11), -1);
        Kit.due("it gives 1", x.thread(0, 4), 1);
    }

    private static void thawing() {
        FrostHouse x = new FrostHouse();
        Kit.due("without a machine", x.thaw(), false);
        Kit.load(x, "class A { static void main() { } }", 1);
        Kit.due("of one that goes on", x.thaw(), false);
        x.run(10);
        Kit.due("of one that has ended", x.thaw(), false);
    }
}
