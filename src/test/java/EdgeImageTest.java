import java.util.Arrays;

/** Terms 4, images: what is written, one test for each sentence that names an edge. */
public final class EdgeImageTest {
    public static void main(String[] args) {
        layout();
        longest();
        steps();
        begunClasses();
        sizes();
        statesWithoutArgs();
        argsOfCalls();
        interruptedAndDead();
        times();
        monitorsWithoutOwner();
        monitorsRise();
        pointFrames();
        numbering();
        numberingOfFrames();
        numberingOfLists();
        fieldsLast();
        registeredThatCan();
        handedOver();
        nothingLeftBehind();
        waitedOnAhead();
        Kit.done();
    }

    private static void section(String what, FrostHouse x, int section, int... want) {
        Kit.due(what + ", section " + section, Arrays.toString(Image.of(x).sections[section]), Arrays.toString(Image.bytes(want)));
    }

    /** The bytes of thread t in section 7 up to the next thread, whose place is told. */
    private static void bytes(String what, FrostHouse x, int from, int... want) {
        byte[] all = Image.of(x).sections[7];
        int to = Math.min(all.length, from + want.length);
        Kit.due(what, Arrays.toString(Arrays.copyOfRange(all, from, to)), Arrays.toString(Image.bytes(want)));
    }

    private static FrostHouse until(String text, int quantum, int t, int state) {
        FrostHouse x = Kit.house(text, quantum);
        for (int i = 0; i < 2000 && x.thread(t, 0) != state; i++) {
            x.run(1);
        }
        Kit.due("state " + state + " is come to in " + text, x.thread(t, 0), state);
        return x;
    }

    // "70, 82, 1; four bytes, how many all are; SECTIONS 1 to 8, each its number, four bytes length, contents; four bytes CRC".
    private static void layout() {
        String text = "class A { static void main() { } }";
        FrostHouse x = Kit.house(text, 1);
        int length = x.freeze();
        byte[] all = Kit.image(x);
        Kit.due("all", length, 11 + 8 * 5 + text.length() + 7 + 1 + 2 + 1 + 1 + (1 + 17 + 3) + 7);
        Kit.due("head", Arrays.toString(Arrays.copyOf(all, 12)), Arrays.toString(Image.bytes(70, 82, 1, 0, 0, 0, length, 1, 0, 0, 0, text.length())));
        Kit.due("put together again, with its CRC", Arrays.equals(new Image(all).build(), all), true);
        for (int i = 0; i < all.length; i++) {
            Kit.due("image(" + i + ")", x.image(i), all[i] & 255);
        }
    }

    // A text of 2,000 bytes, 200 objects, eight threads of 30 frames each: the longest there can be are told, and restored.
    private static void longest() {
        StringBuilder text = new StringBuilder("class A { A n; row w; static A l; static int g; static void fill() { while (g < 88) { A a = new A(); a.n = l; a.w = new row[30]; l = a; g = g + 1; } } "
            + "static void h(int x, A a, A b, A c) { A d = a; A e = b; A f = c; A i = a; A j = b; A k = c; A m = a; A o = b; if (x > 1) { sync (a) { sync (b) { sync (c) { h(x - 1, a, b, c); } } } return; } sleep(30000); } "
            + "static void r() { h(29, new A(), new A(), new A()); } static void main() { fill(); g = 0; while (g < 7) { spawn r(); g = g + 1; } h(29, l, l, l); } }");
        text.append(" ".repeat(2000 - text.length()));
        FrostHouse x = Kit.house(text.toString(), 50);
        int asleep = 0;
        for (int i = 0; i < 20000 && asleep < 8; i++) {
            x.run(1);
            asleep = 0;
            for (int t = 0; t < 8; t++) {
                asleep += x.thread(t, 0) == 4 ? 1 : 0;
            }
        }
        for (int t = 0; t < 8; t++) {
            Kit.due("thirty frames of " + t, x.thread(t, 1), 30);
        }
        int length = x.freeze();
        Kit.due("a long one", length > 25000, true);
        x.take();
        Kit.due("restored", x.restore(x.clock(), 0), 0);
        Kit.due("as long", x.freeze(), length);
    }

    // "SEED (4), QUANTUM, the thread at hand, how many STEPS it has done (0 .. QUANTUM)".
    private static void steps() {
        FrostHouse x = Kit.house("class A { static void main() { while (1) { } } }", 3);
        for (int i = 0; i <= 7; i++) {
            section("behind " + i + " steps", x, 2, 0, 0, 0, 1, 3, 0, i == 0 ? 0 : (i - 1) % 3 + 1);
            x.run(1);
        }
        FrostHouse y = Kit.house("class A { static void main() { hash(\"x\"); while (1) { } } }", 50);
        y.run(3);
        int seed = 1103515245 + 12345;
        section("a seed", y, 2, seed >>> 24, seed >>> 16, seed >>> 8, seed, 50, 0, 3);
    }

    // "of each class its state, its thread (if BEGUN); then VALUES of all STATICS".
    private static void begunClasses() {
        FrostHouse x = Kit.house("class B { static int x = -2; static int y = sleep(50); } class C { static int z = 1 / 0; } class A { static void f() { B.x = 1; } static void main() { try { C.z = 1; } catch (e) { } spawn f(); sleep(20); while (1) { } } }", 50);
        section("all new", x, 3, 0, 0, 0, 0, 0, 0, 0, 0, 0, 0, 0, 0, 0, 0, 0);
        while (x.klass(0, 0) != 1) {
            x.run(1);
        }
        x.run(3);
        section("begun by 1, failed, done", x, 3, 1, 1, 3, 2, -1, -1, -1, -2, 0, 0, 0, 0, 0, 0, 0, 0);
        x.run(200);
        section("done, failed, done", x, 3, 2, 3, 2, 0, 0, 0, 1, 0, 0, 0, 0, 0, 0, 0, 0);
    }

    // "or how many bytes, these; or how many ints, VALUES": the least and the most of them.
    private static void sizes() {
        FrostHouse x = Kit.house("class E { } class A { static text a; static row b; static E c; static row d; static text e; static void main() { a = \"\"; b = new row[0]; c = new E(); d = new row[30]; d[29] = -1; "
            + "e = \"12345678901234567890\" + \"12345678901234567890\"; while (1) { } } }", 50);
        while (x.klass(0, 14) != 1) {
            x.run(1);
        }
        int[] want = new int[2 + 6 + 6 + 5 + 6 + 120 + 6 + 40 + 6 + 20];
        int at = 0;
        int[][] parts = {{0, 6, 254, 0, 0, 0, 0, 0, 255, 0, 0, 0, 0, 0, 0, 0, 0, 0, 0, 255, 0, 0, 0, 0, 30}, new int[116], {255, 255, 255, 255, 254, 0, 0, 0, 0, 40}};
        for (int[] part : parts) {
            for (int b : part) {
                want[at++] = b;
            }
        }
        for (int i = 0; i < 40; i++) {
            want[at++] = '0' + (i + 1) % 10;
        }
        for (int b : new int[] {254, 0, 0, 0, 0, 20}) {
            want[at++] = b;
        }
        for (int i = 0; i < 20; i++) {
            want[at++] = '0' + (i + 1) % 10;
        }
        section("sizes", x, 4, want);
        section("the empty one and that of twenty are interned", x, 5, 2, 1, 6);
    }

    // "What stands at an instruction whose ARGS went is written without these: .. of a thread's first written FRAME ENTER in state 1, BUILT-INS in states 1 to 5 and 8."
    private static void statesWithoutArgs() {
        // Ahead of each a 7 is on the stack; thread 1 begins behind thread 0's bytes.
        String head = "class A { static A l = new A(); static int two(int a, int b) { return b; } static void f() { ";
        FrostHouse sleeps = until(head + "two(7, sleep(300 - time())); } static void main() { l = l; spawn f(); while (1) { } } }", 50, 1, 4);
        int from = 1 + 17 + 3;
        int left = 302 - (int) sleeps.clock();
        bytes("sleeps", sleeps, from, 4, 0, 0, 0, 0, 0, 0, 0, left >> 8, left, 0, 0, 0, 0, 255, 255, 1, 1, 0, 4, 0, 0, 0, 7);
        FrostHouse joins = until(head + "two(7, join(0)); } static void main() { l = l; spawn f(); while (1) { } } }", 50, 1, 5);
        bytes("joins", joins, from, 5, 0, 0, 0, 0, 0, 0, 0, 0, 0, 0, 0, 0, 0, 0, 255, 1, 1, 0, 2, 0, 0, 0, 7);
        FrostHouse waits = until(head + "sync (l) { two(7, wait(l)); } } static void main() { l = l; spawn f(); while (1) { } } }", 50, 1, 2);
        bytes("waits", waits, from, 2, 0, 0, 0, 0, 0, 0, 0, 0, 0, 1, 0, 1, 0, 255, 255, 1, 1, 0, 4, 0, 0, 0, 7, 1);
        FrostHouse timed = until(head + "sync (l) { two(7, wait(l, 300 - time())); } } static void main() { l = l; spawn f(); while (1) { } } }", 50, 1, 3);
        left = 302 - (int) timed.clock();
        bytes("waits with a time", timed, from, 3, 0, 0, 0, 0, 0, 0, 0, left >> 8, left, 1, 0, 1, 0, 255, 255, 1, 1, 0, 7, 0, 0, 0, 7, 1);
        FrostHouse thrower = until(head + "two(7, sleep(9999)); } static void main() { l = l; int t = spawn f(); sleep(20); interrupt(t); while (1) { } } }", 50, 1, 8);
        // Main has its t, and what interrupt gave.
        bytes("is to throw", thrower, from + 8, 8, 0, 0, 0, 0, 0, 0, 0, 0, 0, 0, 0, 0, 0, 255, 255, 1, 1, 0, 2, 0, 0, 0, 7);
        // Main sleeps there with l held, and one place less: its own bytes are 17, 3, t, and what it holds.
        String holds = "static void main() { l = l; int t = spawn f(); sleep(20); sync (l) { ";
        int behind = 1 + 17 + 3 + 4 + 1;
        FrostHouse enters = until(head + "sync (l) { two(7, 8); } } " + holds.replace("sleep(20); ", "") + "sleep(99); } } }", 50, 1, 1);
        bytes("is blocked", enters, behind, 1, 0, 0, 0, 0, 0, 0, 0, 0, 0, 1, 0, 0, 0, 255, 255, 1, 1, 0, 1);
        FrostHouse notified = until(head + "sync (l) { sync (l) { two(7, wait(l, 9000)); } } } " + holds + "notify(l); sleep(99); } } }", 50, 1, 1);
        bytes("is blocked behind a wait, by notify", notified, behind + 4, 1, 0, 0, 0, 0, 0, 0, 0, 0, 0, 1, 0, 2, 1, 255, 255, 1, 1, 0, 7, 0, 0, 0, 7, 1, 1);
        FrostHouse late = until(head + "sync (l) { two(7, wait(l, 50)); } } " + holds + "sleep(99); } } }", 50, 1, 1);
        bytes("is blocked behind a wait, by time", late, behind, 1, 0, 0, 0, 0, 0, 0, 0, 0, 0, 1, 0, 1, 2, 255, 255, 1, 1, 0, 5, 0, 0, 0, 7, 1);
        FrostHouse stopped = until(head + "sync (l) { two(7, wait(l)); } } " + holds + "interrupt(t); sleep(99); } } }", 50, 1, 1);
        bytes("is blocked behind a wait, by interrupt", stopped, behind + 4, 1, 0, 0, 0, 0, 0, 0, 0, 0, 0, 1, 0, 1, 3, 255, 255, 1, 1, 0, 4, 0, 0, 0, 7, 1);
    }

    // "a CALL with a FRAME above it that is no INITIALISER's".
    private static void argsOfCalls() {
        FrostHouse x = Kit.house("class B { static int s = sleep(9); static int f(int a, int b) { return a - b; } } class A { static void main() { print(7 + B.f(5, 3)); } }", 50);
        int frame = 18;
        x.run(3);
        bytes("ahead of the call", x, frame, 1, 0, 3, 0, 0, 0, 7, 0, 0, 0, 5, 0, 0, 0, 3);
        x.run(1);
        bytes("with an initialiser above it", x, frame, 2, 0, 0, 1, 0, 3, 0, 0, 0, 7, 0, 0, 0, 5, 0, 0, 0, 3);
        x.take();
        Kit.due("restored with it", x.restore(x.clock(), 0), 0);
        while (x.thread(0, 2) != 0) {
            x.run(1);
        }
        bytes("with its method above it", x, frame, 0, 0, 0, 0, 0, 0, 5, 0, 0, 0, 3, 1, 0, 3, 0, 0, 0, 7);
        x.take();
        Kit.due("restored with it", x.restore(x.clock(), 0), 0);
        x.run(100);
        Kit.due("goes on", Kit.out(x), "9|");
        FrostHouse y = Kit.house("class A { int f(int a) { return a; } static void main() { A x = new A(); print(x.f(5)); } }", 50);
        while (y.thread(0, 1) != 2 || y.thread(0, 2) != 0) {
            y.run(1);
        }
        bytes("with its object", y, frame, 0, 0, 0, 0, 0, 0, 1, 0, 0, 0, 5, 1, 0, 4, 0, 0, 0, 1);
        // A spawn's args go at once, its number is there.
        FrostHouse z = Kit.house("class A { static void f(int a) { } static void main() { print(spawn f(5)); } }", 50);
        while (z.about(4) != 2) {
            z.run(1);
        }
        section("a spawn", z, 7, 2, 0, 0, 0, 0, 0, 0, 0, 0, 0, 0, 0, 0, 0, 0, 255, 255, 1, 1, 0, 2, 0, 0, 0, 1,
            0, 0, 0, 0, 0, 0, 0, 0, 0, 0, 0, 0, 0, 0, 255, 255, 1, 0, 0, 0, 0, 0, 0, 5);
    }

    // "1 if INTERRUPTED, else 0; by what it is DEAD (4; 0 otherwise)".
    private static void interruptedAndDead() {
        FrostHouse x = Kit.house("class A { static void f(int n) { throw n; } static void main() { interrupt(me()); spawn f(-2); spawn f(0); while (1) { } } }", 9);
        while (x.about(5) != 2) {
            x.run(1);
        }
        byte[] all = Image.of(x).sections[7];
        Kit.due("0 is interrupted", all[2], 1);
        bytes("two dead ones", x, all.length - 34, 7, 0, 255, 255, 255, 254, 0, 0, 0, 0, 0, 0, 0, 0, 255, 255, 0, 7, 0, 0, 0, 0, 0, 0, 0, 0, 0, 0, 0, 0, 0, 255, 255, 0);
    }

    // "how long till its time (4; 3, 4 alone, else 0)".
    private static void times() {
        FrostHouse x = Kit.house("class A { static void main() { sleep(2147483647); } }", 9);
        x.run(2);
        bytes("the longest, a step later", x, 7, 127, 255, 255, 254);
        FrostHouse y = Kit.house("class A { static void main() { sleep(1); } }", 9);
        y.run(2);
        bytes("the shortest, a step later", y, 1, 4, 0, 0, 0, 0, 0, 0, 0, 0, 0);
        y.take();
        Kit.due("it is restored", y.restore(77, 0), 0);
        y.run(1);
        Kit.due("and wakes at once", y.clock(), 78);
        FrostHouse z = until("class A { static A l = new A(); static void main() { sync (l) { wait(l, 1); } } }", 9, 0, 3);
        bytes("the shortest wait, a step later", z, 1, 3, 0, 0, 0, 0, 0, 0, 0, 0, 0, 1, 0, 1, 0);
        FrostHouse u = until("class A { static A l = new A(); static void main() { sync (l) { wait(l, 2147483647); } } }", 9, 0, 3);
        bytes("the longest wait, a step later", u, 1, 3, 0, 0, 0, 0, 0, 127, 255, 255, 254, 1, 0, 1, 0);
    }

    // "(of OBJECTS that have an owner) .. (also of such as have none but some that wait)".
    private static void monitorsWithoutOwner() {
        String text = "class A { static A l = new A(); static A k = new A(); static void f() { sync (l) { sync (k) { wait(l); } } } static void main() { l = l; spawn f(); spawn g(); sleep(60); sync (l) { } sleep(50); } "
            + "static void g() { sync (l) { sync (l) { wait(l, 500); } } } }";
        FrostHouse x = until(text, 50, 2, 3);
        // l has none, two wait for it; k is thread 1's.
        section("two wait", x, 6, 2, 1, 255, 0, 0, 0, 2, 1, 2, 2, 1, 0, 1, 0, 0);
        FrostHouse y = Kit.house("class A { static A l = new A(); static void main() { sync (l) { } while (1) { } } }", 50);
        y.run(20);
        section("left, none waits", y, 6, 0);
        FrostHouse z = Kit.house("class A { static void main() { sync (\"a\") { sync (\"a\") { while (1) { } } } } }", 50);
        z.run(10);
        section("a text, twice", z, 6, 1, 1, 0, 0, 2, 0, 0);
    }

    // "by rising OBJECTS".
    private static void monitorsRise() {
        FrostHouse x = Kit.house("class A { static A a; static row b; static text c; static void main() { a = new A(); b = new row[1]; c = \"\"; sync (c) { sync (b) { sync (a) { while (1) { } } } } } }", 50);
        x.run(40);
        section("rising", x, 6, 3, 1, 0, 0, 1, 0, 0, 2, 0, 0, 1, 0, 0, 3, 0, 0, 1, 0, 0);
        byte[] all = Image.of(x).sections[7];
        Kit.due("held in their order", Arrays.toString(Arrays.copyOfRange(all, all.length - 3, all.length)), "[3, 2, 1]");
    }

    // "the checkpoint's thread, its FRAME there (the thread's first is 0)".
    private static void pointFrames() {
        FrostHouse x = Kit.house("class A { static void d(int n) { if (n > 0) { d(n - 1); return; } checkpoint(); } static void e() { d(3); } static void main() { spawn e(); sleep(999); } }", 50);
        while (x.about(11) != 1) {
            x.run(1);
        }
        section("frame 4 of thread 1", x, 8, 1, 4, 1, 0, 0, 0, 0);
        x.run(1);
        section("frozen", x, 8, 1, 4, 3, 0, 0, 0, 0);
        x.thaw();
        x.run(1);
        section("over", x, 8, 255, 0, 0, 0, 0, 0, 0);
    }

    // "OBJECTS are numbered from 1 on as they are first come to: STATICS; threads, each: its FRAMES as written ..".
    private static void numbering() {
        // Statics a (a row of one int), b (the same), c null, d (a row of four ints).
        FrostHouse x = Kit.house("class A { static row a; static row b; static text c; static row d; static void main() { row v = new row[2]; row w = new row[3]; d = new row[4]; a = new row[1]; b = a; c = null; while (1) { } } }", 50);
        x.run(40);
        section("numbers", x, 3, 2, 0, 0, 0, 1, 0, 0, 0, 1, 0, 0, 0, 0, 0, 0, 0, 2);
        byte[] all = Image.of(x).sections[7];
        Kit.due("v and w", Arrays.toString(Arrays.copyOfRange(all, all.length - 12, all.length)).startsWith("[") && all[24] == 3 && all[28] == 4, true);
        byte[] objects = Image.of(x).sections[4];
        Kit.due("sizes of them in that order", objects[7] * 1000 + objects[17] * 100 + objects[39] * 10 + objects[53], 1423);
    }

    // "(What is in FRAMES: variables, stack, HELD.)"; "then what it waits on".
    private static void numberingOfFrames() {
        // Of the upper frame: variable (size 1), stack (2), held (3); of the lower: variable (4), stack (5), held (6).
        FrostHouse x = Kit.house("class A { static int two(row r, int a) { return a; } static int f(row v) { sync (new row[3]) { return two(new row[2], sleep(99)); } } "
            + "static void main() { row v = new row[4]; sync (new row[6]) { two(new row[5], f(new row[1])); } } }", 50);
        while (x.thread(0, 0) != 4) {
            x.run(1);
        }
        byte[] objects = Image.of(x).sections[4];
        StringBuilder sizes = new StringBuilder();
        for (int at = 2; at < objects.length; at += 6 + 4 * objects[at + 5]) {
            sizes.append(objects[at + 5]);
        }
        Kit.due("sizes in their order", sizes.toString(), "123456");
        Kit.due("six", x.about(6), 6);
    }

    // "LIST; interned ones; then, OBJECT by OBJECT as numbered, their FIELDS."
    private static void numberingOfLists() {
        FrostHouse x = Kit.house("res class R { R n; text t; void freeze() { A.a = null; sleep(99); } void thaw() { } } class A { static R a; static void main() { R r = new R(); a = new R(); a.t = \"q\" + 1; a.n = new R(); r.n = a; register(a); register(r); print(\"z\"); checkpoint(); } }", 50);
        while (x.thread(0, 0) != 4) {
            x.run(1);
        }
        // The frame's this, and main's r: 1; of LIST a: 2; interned q, z: 3, 4; then of 1 n: 2, and of 2 n: 5, t: 6.
        section("list", x, 8, 0, 0, 1, 1, 2, 2, 1, 2, 2, 1, 0);
        section("interned", x, 5, 2, 3, 4);
        section("objects", x, 4, 0, 6, 0, 0, 0, 0, 0, 0, 0, 0, 2, 0, 0, 0, 0, 0, 0, 0, 0, 0, 0, 0, 0, 5, 0, 0, 0, 6, 254, 0, 0, 0, 0, 1, 'q', 254, 0, 0, 0, 0, 1, 'z',
            0, 0, 0, 0, 0, 0, 0, 0, 0, 0, 0, 0, 0, 254, 0, 0, 0, 0, 2, 'q', '1');
    }

    private static void fieldsLast() {
        FrostHouse x = Kit.house("class A { A n; int i; A m; static A s; static void main() { s = new A(); s.m = new A(); s.n = new A(); s.n.m = new A(); s.n.i = 4; s.m.n = s; while (1) { } } }", 50);
        x.run(60);
        // s 1; its n 2, m 3; of 2 its m 4; of 3 its n is 1.
        section("objects", x, 4, 0, 4, 0, 0, 0, 0, 0, 0, 0, 0, 2, 0, 0, 0, 0, 0, 0, 0, 3, 0, 0, 0, 0, 0, 0, 0, 0, 0, 0, 0, 0, 4, 0, 0, 0, 4,
            0, 0, 0, 0, 0, 0, 0, 0, 1, 0, 0, 0, 0, 0, 0, 0, 0, 0, 0, 0, 0, 0, 0, 0, 0, 0, 0, 0, 0, 0, 0, 0, 0, 0);
    }

    // "registered ones (that can be reached) likewise"; "Others are not there."
    private static void registeredThatCan() {
        FrostHouse x = Kit.house("res class R { void freeze() { } void thaw() { } } class A { static R a; static R b; static R c; static void main() { a = new R(); b = new R(); c = new R(); register(c); register(a); register(b); a = null; while (1) { } } }", 50);
        x.run(60);
        section("c and b", x, 8, 255, 0, 0, 0, 0, 2, 2, 1, 0);
        section("two objects", x, 4, 0, 2, 0, 0, 0, 0, 0, 0, 0, 0, 0, 0);
        Kit.due("registered", x.about(7), 2);
    }

    // "One that is free then goes to the first of its queue at once, as often as that had it (ENTER: once)".
    private static void handedOver() {
        FrostHouse x = Kit.house("class A { static A l = new A(); static void f() { sync (l) { sync (l) { sleep(50); } sleep(50); } } static void main() { sync (l) { spawn f(); sleep(20); } sleep(500); } }", 50);
        while (x.thread(1, 6) != 1) {
            x.run(1);
        }
        section("once", x, 6, 1, 1, 1, 0, 1, 0, 0);
        while (x.thread(1, 6) != 2) {
            x.run(1);
        }
        section("twice", x, 6, 1, 1, 1, 0, 2, 0, 0);
        while (x.thread(1, 6) != 1) {
            x.run(1);
        }
        section("once again", x, 6, 1, 1, 1, 0, 1, 0, 0);
        FrostHouse y = until("class A { static A l = new A(); static void f() { sync (l) { sync (l) { sync (l) { wait(l); sleep(50); } } } } static void main() { spawn f(); sleep(20); sync (l) { notify(l); } sleep(500); } }", 50, 1, 1);
        while (y.thread(1, 0) == 1) {
            y.run(1);
        }
        section("three times, as before its wait", y, 6, 1, 1, 1, 0, 3, 0, 0);
    }

    /** The header of thread t in section 7 if all ahead of it stand in one frame without values. */
    private static void header(String what, FrostHouse x, int from, int state) {
        bytes(what, x, from, state, 0, 0, 0, 0, 0, 0, 0, 0, 0, 0, 0, 0, 0, 255, 255);
    }

    // What section 7 tells of some states alone is 0, or 255, as soon as the state is another one.
    private static void nothingLeftBehind() {
        int from = 1 + 17 + 3;
        String main = "static void main() { l = l; spawn f(); ";
        FrostHouse enter = Kit.house("class A { static A l = new A(); static void f() { sync (l) { while (1) { } } } " + main + "sync (l) { sleep(40); } while (1) { } } }", 50);
        while (enter.thread(1, 0) != 1) {
            enter.run(1);
        }
        while (enter.thread(1, 0) == 1) {
            enter.run(1);
        }
        header("behind ENTER", enter, from, 0);
        FrostHouse wait = Kit.house("class A { static A l = new A(); static void f() { sync (l) { wait(l, 5000); while (1) { } } } " + main + "sleep(40); sync (l) { notify(l); } while (1) { } } }", 50);
        while (wait.thread(1, 0) != 3) {
            wait.run(1);
        }
        while (wait.thread(1, 0) != 0) {
            wait.run(1);
        }
        header("behind a wait, notified", wait, from, 0);
        FrostHouse late = Kit.house("class A { static A l = new A(); static void f() { sync (l) { wait(l, 90); while (1) { } } } " + main + "while (1) { } } }", 50);
        while (late.thread(1, 0) != 3) {
            late.run(1);
        }
        while (late.thread(1, 0) != 0) {
            late.run(1);
        }
        byte[] all = Image.of(late).sections[7];
        int at = all.length - 25;
        Kit.due("main's own bytes", at >= from, true);
        header("behind a wait, by time", late, at, 0);
        for (String call : new String[] {"sync (l) { wait(l); }", "sync (l) { wait(l, 5000); }", "sleep(5000);", "join(0);"}) {
            FrostHouse x = Kit.house("class A { static A l = new A(); static void f() { try { " + call + " } catch (e) { while (1) { } } } static void main() { l = l; spawn f(); sleep(40); interrupt(1); while (1) { } } }", 50);
            while (x.thread(1, 0) != 8) {
                x.run(1);
            }
            byte[] told = Image.of(x).sections[7];
            // Main has what interrupt gave on its stack.
            header("interrupted: " + call, x, from + 4, 8);
            while (x.thread(1, 0) != 0) {
                x.run(1);
            }
            Kit.due("told", told.length > from, true);
            byte[] then = Image.of(x).sections[7];
            header("-5 is thrown: " + call, x, then.length - 24, 0);
        }
        FrostHouse joins = Kit.house("class A { static A l; static void g() { sleep(30); } static void f() { join(2); while (1) { } } static void main() { l = l; spawn f(); spawn g(); while (1) { } } }", 50);
        while (joins.thread(1, 0) != 5) {
            joins.run(1);
        }
        while (joins.thread(1, 0) == 5) {
            joins.run(1);
        }
        byte[] joined = Image.of(joins).sections[7];
        header("behind a join", joins, joined.length - 17 - 24, 0);
        FrostHouse wants = Kit.house("class B { static int x = sleep(30); } class A { static A l; static void g() { B.x = 1; } static void f() { sleep(5); B.x = 2; while (1) { } } static void main() { l = l; spawn f(); spawn g(); while (1) { } } }", 50);
        while (wants.thread(1, 0) != 6) {
            wants.run(1);
        }
        while (wants.thread(1, 0) == 6) {
            wants.run(1);
        }
        for (int i = 0; i < 3; i++) {
            wants.take();
            Image.of(wants);
            wants.take();
            Kit.due("behind waiting for a class", wants.restore(wants.clock(), 0), 0);
            wants.run(20);
        }
    }

    // "threads, each: its FRAMES as written, then what it waits on": ahead of the next thread's FRAMES.
    private static void waitedOnAhead() {
        FrostHouse y = Kit.house("class A { static A s; static A turn() { A o = s; s = null; return o; } static void f() { sync (turn()) { } } static void g() { row a = new row[2]; A b = s; sync (b) { b = null; spawn f(); sleep(900); } } "
            + "static void main() { s = new A(); spawn z(); spawn g(); sleep(5000); } static void z() { } }", 50);
        while (y.thread(3, 0) != 1) {
            y.run(1);
        }
        // Thread 2 has its row in a variable, then what it holds; thread 3 waits on that.
        section("objects", y, 4, 0, 2, 255, 0, 0, 0, 0, 2, 0, 0, 0, 0, 0, 0, 0, 0, 0, 0, 0, 0, 0);
        // The other way round: the one that waits has the lesser number.
        FrostHouse u = Kit.house("class A { static A s; static A turn() { A o = s; s = null; return o; } static void f() { sleep(100); sync (turn()) { } } static void g() { row a = new row[2]; A b = s; sync (b) { b = null; sleep(900); } } "
            + "static void main() { s = new A(); spawn f(); spawn g(); sleep(5000); } }", 50);
        while (u.thread(1, 0) != 1) {
            u.run(1);
        }
        section("objects", u, 4, 0, 2, 0, 0, 0, 0, 0, 255, 0, 0, 0, 0, 2, 0, 0, 0, 0, 0, 0, 0, 0);
        section("threads: what 1 waits on", u, 6, 1, 1, 2, 0, 1, 1, 1, 0);
    }
}
