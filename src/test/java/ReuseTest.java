import java.nio.charset.StandardCharsets;
import java.util.Arrays;
import java.util.Random;

/** A house that has had many programs and images answers as a new one does: nothing of an earlier one is left in it. */
public final class ReuseTest {
    private static final String[] DIRTY = {
        // Interned texts, registered ones, a checkpoint that goes on, failures, handles, hashes, waiting threads, held monitors.
        "res class R { int k; void freeze() { A.h(20); sleep(9000); } void thaw() { } } class A { static R a = new R(); static R b = new R(); static A l = new A(); static row w = new row[30]; A n; int f; "
            + "static void h(int x) { int p = x; row q = w; A r = l; if (x > 0) { h(x - 1); return; } sleep(7000); } static void g(int n) { sync (l) { sync (l) { wait(l, n); } } } static void j() { join(0); } "
            + "static void s() { sync (a) { sleep(9999); } } static void t() { sync (a) { } } static void main() { int i = 0; while (i < 30) { w[i] = -1; i = i + 1; } while (i < 70) { A z = new A(); z.f = i; z.n = z; hash(z); text t = \"q\" + i; i = i + 1; } "
            + "register(a); register(b); spawn g(0); spawn g(8000); spawn j(); spawn s(); spawn t(); spawn h(25); interrupt(5); print(intern(\"u\" + 1)); open(); try { checkpoint(); } catch (e) { print(e); } close(0); checkpoint(); } }",
        // A class that fails, one that is begun, threads that are dead by something.
        "class B { static int x = sleep(9000); static text t = \"b\"; } class C { static int y = 1 / 0; static row r = new row[2]; } class A { static void f() { B.x = 1; } static void g() { throw -9; } "
            + "static void main() { try { C.y = 1; } catch (e) { print(e); } spawn f(); spawn f(); spawn g(); spawn g(); sleep(100); interrupt(2); while (1) { } } }",
        // Many monitors held, five threads blocked behind their waits, two at their enters; the last one made is at hand.
        "class A { static row w; static A l = new A(); A n; static void f() { sync (l) { sync (l) { wait(l); } } } static void e() { sync (l) { } } static void d(int x, A o) { if (x == 0) { all(l); spawn e(); spawn e(); while (1) { } } "
            + "o.n = new A(); sync (o) { sync (o.n) { sync (o) { d(x - 1, o.n); } } } } static void main() { spawn f(); spawn f(); spawn f(); spawn f(); spawn f(); sleep(300); sync (l) { d(25, new A()); } } }"};
    private static final String[] CLEAN = {
        // Each new object is entered, each new thread is blocked at an enter, waits, joins, sleeps; what is told of them is looked at all along.
        "class A { A n; static A l = new A(); static void f(int x) { sync (l) { print(x); sleep(x); } } static void g() { sync (l) { wait(l, 5); } } static void main() { A o = new A(); int i = 0; while (i < 25) { o.n = new A(); sync (o) { sync (o.n) { i = i + 1; } } o = o.n; } "
            + "sync (l) { spawn f(1); spawn f(2); spawn f(3); spawn f(4); spawn f(5); spawn g(); spawn g(); sleep(30); } sleep(5); join(3); sync (o) { sync (l) { print(7); } } } }",
        "res class R { R n; void freeze() { print(1); } void thaw() { print(2); } } class A { static R r; static text t; static row w; static void main() { r = new R(); r.n = new R(); w = new row[30]; print(w[29]); print(register(r)); print(hash(r)); print(failures()); t = \"a\" + 1; "
            + "print(intern(t) == t); print(r.n.n == null); print(interrupted()); print(checkpoint()); print(open()); } }"};

    public static void main(String[] args) {
        int seeds = args.length > 0 ? Integer.parseInt(args[0]) : 40;
        FrostHouse used = new FrostHouse();
        for (int seed = 1; seed <= seeds; seed++) {
            Random random = new Random(seed);
            soil(used, seed, random);
            String text = seed % 3 == 2 ? CLEAN[seed / 3 % 2] : new Weaver(seed).weave();
            FrostHouse fresh = new FrostHouse();
            int quantum = 1 + random.nextInt(12);
            Kit.due("seed " + seed + ": load", Kit.load(used, text, quantum), Kit.load(fresh, text, quantum));
            Kit.due("seed " + seed + ": kind", used.fault(0), fresh.fault(0));
            Kit.due("seed " + seed + ": place", used.fault(1), fresh.fault(1));
            if (fresh.fault(0) == 0) {
                goOn("seed " + seed, used, fresh, random);
            }
            restored("seed " + seed, used, random);
            faults("seed " + seed, used, text, random);
        }
        small(used);
        Kit.done();
    }

    /** Both machines of the house, the one it has and the one that is spare, are left with much in them. */
    private static void soil(FrostHouse used, int seed, Random random) {
        for (int i = 0; i < 3; i++) {
            Kit.due("seed " + seed + ": load", Kit.load(used, DIRTY[(i + seed) % 3], 1 + random.nextInt(20)) > 0, true);
            used.run(3000 + random.nextInt(3000));
            // An image that is refused late leaves much in the spare machine.
            if (seed % 3 != 0 && used.freeze() > 0) {
                used.take();
                used.patch(used.about(1) - 5, 3);
                used.seal();
                used.restore(5, 6);
            }
        }
    }

    private static void goOn(String what, FrostHouse used, FrostHouse fresh, Random random) {
        for (int i = 0; i < 25; i++) {
            int steps = random.nextInt(40);
            Kit.due(what + ": steps", used.run(steps), fresh.run(steps));
            same(what, used, fresh);
            used.thaw();
            fresh.thaw();
        }
    }

    private static void same(String what, FrostHouse used, FrostHouse fresh) {
        Kit.due(what + ": clock", used.clock(), fresh.clock());
        Kit.due(what + ": out", Kit.out(used), Kit.out(fresh));
        for (int k = 0; k <= 14; k++) {
            if (k != 1 && k != 2) {
                Kit.due(what + ": about(" + k + ")", used.about(k), fresh.about(k));
            }
        }
        for (int t = 0; t < 8; t++) {
            for (int k = 0; k <= 8; k++) {
                Kit.due(what + ": thread(" + t + ", " + k + ")", used.thread(t, k), fresh.thread(t, k));
            }
        }
        for (int c = 0; c < 8; c++) {
            for (int k = 0; k <= 4; k++) {
                Kit.due(what + ": klass(" + c + ", " + k + ")", used.klass(c, k), fresh.klass(c, k));
            }
        }
        for (int s = 10; s < 30; s++) {
            Kit.due(what + ": klass(0, " + s + ")", used.klass(0, s), fresh.klass(0, s));
        }
        int length = fresh.freeze();
        Kit.due(what + ": freeze", used.freeze(), length);
        if (length > 0) {
            Kit.due(what + ": image", Arrays.equals(Kit.image(used), Kit.image(fresh)), true);
        }
    }

    /** An image of another program comes into the used house, and into a new one. */
    private static void restored(String what, FrostHouse used, Random random) {
        FrostHouse source = new FrostHouse();
        if (Kit.load(source, DIRTY[random.nextInt(3)], 1 + random.nextInt(9)) < 0) {
            return;
        }
        source.run(random.nextInt(4000));
        if (source.freeze() < 0) {
            return;
        }
        byte[] image = Kit.image(source);
        FrostHouse fresh = new FrostHouse();
        Kit.tape(used, image);
        Kit.tape(fresh, image);
        Kit.due(what + ": restore", used.restore(50, 7), fresh.restore(50, 7));
        same(what + ", restored", used, fresh);
        goOn(what + ", restored", used, fresh, random);
    }

    /** Texts that are cut: nothing of the longer one ahead of them is behind their end. */
    private static void faults(String what, FrostHouse used, String text, Random random) {
        for (int i = 0; i < 12; i++) {
            int length = 1 + random.nextInt(Math.min(text.length(), 1999));
            FrostHouse fresh = new FrostHouse();
            Kit.load(used, "x".repeat(2000), 1);
            Kit.load(used, "1".repeat(random.nextInt(2001)), 1);
            Kit.due(what + ": load", Kit.load(used, text.substring(0, length), 1), Kit.load(fresh, text.substring(0, length), 1));
            Kit.due(what + ": kind of " + length, used.fault(0), fresh.fault(0));
            Kit.due(what + ": place of " + length, used.fault(1), fresh.fault(1));
        }
    }

    private static void small(FrostHouse used) {
        // A name, a number, a string, a sign at the very end, with more of the same behind it in the text that was ahead.
        for (String text : new String[] {"class A { int ab", "class A { static int a = 12", "class A { static int a = 214748364", "class A { static text a = \"12", "class A { static int a = 1 =", "class A { static int a = 1 &", "class A { static int a = 1 <"}) {
            for (String behind : new String[] {"c", "9", "\"", "=", "&", "("}) {
                Kit.load(used, text + behind.repeat(40), 1);
                FrostHouse fresh = new FrostHouse();
                Kit.load(fresh, text, 1);
                Kit.load(used, text, 1);
                Kit.due("kind of " + text, used.fault(0), fresh.fault(0));
                Kit.due("place of " + text, used.fault(1), fresh.fault(1));
            }
        }
        byte[] text = "class A { static void main() { } }".getBytes(StandardCharsets.ISO_8859_1);
        Kit.load(used, new String(text, StandardCharsets.ISO_8859_1) + "}".repeat(50), 1);
        Kit.tape(used, text);
        Kit.due("a right one behind a wrong one", used.load(1), 1);
    }
}
