import java.nio.charset.StandardCharsets;
import java.util.Arrays;

/** Promises 10 to 14: freeze, image, take, patch, seal; the bytes of images. */
public final class ImageTest {
    public static void main(String[] args) {
        calls();
        sealing();
        plain();
        objects();
        threads();
        checkpoint();
        waits();
        turns();
        Kit.done();
    }

    private static void section(String what, Image image, int section, int... want) {
        Kit.due(what + ", section " + section, Arrays.toString(image.sections[section]), Arrays.toString(Image.bytes(want)));
    }

    private static void calls() {
        FrostHouse x = new FrostHouse();
        Kit.due("freeze without a machine", x.freeze(), -1);
        Kit.due("take without an image", x.take(), -1);
        Kit.due("image without one", x.image(0), -1);
        Kit.due("patch of an empty tape", x.patch(0, 1), false);
        Kit.due("seal of an empty tape", x.seal(), false);
        String text = "class A { static void main() { print(1); } }";
        Kit.load(x, text, 4);
        int length = x.freeze();
        Kit.due("bytes", length, x.about(2));
        Kit.due("image(-1)", x.image(-1), -1);
        Kit.due("image behind the last", x.image(length), -1);
        Kit.due("the machine goes on", x.run(100), 4);
        x.feed(1, 2, 3, 4, 5);
        Kit.due("take", x.take(), length);
        Kit.due("the tape", x.about(1), length);
        Kit.due("patch behind the last", x.patch(length, 1), false);
        Kit.due("patch(-1)", x.patch(-1, 1), false);
        Kit.due("patch", x.patch(length - 1, 1), true);
        Kit.due("load leaves the image", Kit.load(x, text, 5), 1);
        Kit.due("load leaves the image", x.about(2), length);
        Kit.due("freeze of one that has ended", endedFreeze(), true);
    }

    private static boolean endedFreeze() {
        FrostHouse x = Kit.house("class A { static void main() { throw -2; } }", 1);
        x.run(10);
        Image image = Image.of(x);
        section("one that has ended", image, 7, 1, 7, 0, -1, -1, -1, -2, 0, 0, 0, 0, 0, 0, 0, 0, 255, 255, 0);
        x.take();
        Kit.due("restore of one that has ended", x.restore(0, 0), 0);
        return x.about(0) == 3 && x.thread(0, 8) == -2;
    }

    private static void sealing() {
        FrostHouse x = new FrostHouse();
        Kit.tape(x, "123456789....".getBytes(StandardCharsets.ISO_8859_1));
        Kit.due("seal", x.seal(), true);
        byte[] want = "123456789".getBytes(StandardCharsets.ISO_8859_1);
        java.util.zip.CRC32 crc = new java.util.zip.CRC32();
        crc.update(want);
        Kit.due("the CRC of 123456789", crc.getValue(), 0xCBF43926L);
        // The bytes of the tape can't be read but by a load: the CRC's own are letters of no text, so a restore tells of them.
        FrostHouse y = Kit.house("class A { static void main() { } }", 1);
        int length = y.freeze();
        y.take();
        for (int i = 1; i <= 4; i++) {
            y.patch(length - i, 0);
        }
        Kit.due("a wrong CRC", y.restore(0, 0), 2);
        Kit.due("its place", y.fault(3), length - 4);
        y.seal();
        Kit.due("a right one", y.restore(0, 0), 0);
        y.end(3);
        Kit.due("seal of three bytes", y.seal(), false);
        y.end(0);
        Kit.tape(y, new byte[4]);
        Kit.due("seal of four bytes", y.seal(), true);
        y.take();
        y.patch(length - 1, y.image(length - 1) + 256 * 7);
        Kit.due("the lowest eight bits", y.restore(0, 0), 0);
        y.patch(length - 1, y.image(length - 1) + 1);
        Kit.due("another byte", y.restore(0, 0), 2);
    }

    private static void plain() {
        String text = "class A { static void main() { int a = 258; a = a; } }";
        FrostHouse x = Kit.house(text, 9);
        x.run(3);
        Image image = Image.of(x);
        Kit.due("all bytes", Arrays.equals(image.build(), Kit.image(x)), true);
        Kit.due("the text", new String(image.sections[1], StandardCharsets.ISO_8859_1), text);
        section("plain", image, 2, 0, 0, 0, 1, 9, 0, 3);
        section("plain", image, 3, 0);
        section("plain", image, 4, 0, 0);
        section("plain", image, 5, 0);
        section("plain", image, 6, 0);
        section("plain", image, 7, 1, 0, 0, 0, 0, 0, 0, 0, 0, 0, 0, 0, 0, 0, 0, 255, 255, 1, 0, 0, 3, 0, 0, 1, 2, 0, 0, 1, 2);
        section("plain", image, 8, 255, 0, 0, 0, 0, 0, 0);
    }

    private static void objects() {
        FrostHouse x = Kit.house("class B { text t; int i; B b; static int z = 7; } class A { static B p; static text q; static row r; static A l = new A(); "
            + "static void main() { r = new row[2]; r[1] = -1; p = new B(); p.b = new B(); p.b.b = p; p.i = 5; q = \"xy\"; p.b.t = q + \"\"; hash(r); "
            + "B lost = new B(); lost = p.b; print(B.z); while (1) { } } }", 50);
        x.run(200);
        Image image = Image.of(x);
        // p 1, q 2, r 3, l 4, what lost is 5, the interned empty text 6, p.b.t 7.
        section("objects", image, 3, 2, 2, 0, 0, 0, 7, 0, 0, 0, 1, 0, 0, 0, 2, 0, 0, 0, 3, 0, 0, 0, 4);
        int hash = (1103515245 + 12345) >>> 1 | 1;
        section("objects", image, 4, 0, 7,
            0, 0, 0, 0, 0, 0, 0, 0, 0, 0, 0, 0, 5, 0, 0, 0, 5,
            254, 0, 0, 0, 0, 2, 'x', 'y',
            255, hash >>> 24, hash >>> 16, hash >>> 8, hash, 2, 0, 0, 0, 0, -1, -1, -1, -1,
            1, 0, 0, 0, 0,
            0, 0, 0, 0, 0, 0, 0, 0, 7, 0, 0, 0, 0, 0, 0, 0, 1,
            254, 0, 0, 0, 0, 0,
            254, 0, 0, 0, 0, 2, 'x', 'y');
        section("objects", image, 5, 2, 2, 6);
        Kit.due("reached", x.about(6), 7);
        Kit.due("interned", x.about(8), 2);
        int seed = 1103515245 + 12345;
        Kit.due("the seed", Image.number(image.sections[2], 0, 4), seed);
    }

    private static void threads() {
        FrostHouse x = Kit.house("class A { static A l = new A(); static A k = new A(); A me() { sync (l) { sync (this) { sync (l) { sleep(100); } } } return this; } "
            + "static void f(int n, text t) { sync (l) { print(n); } } static void g() { join(0); } "
            + "static void main() { spawn f(3, null); spawn f(4, \"q\"); spawn g(); interrupt(1); A a = k.me(); } }", 50);
        while (x.thread(2, 0) != 1 || x.thread(3, 0) != 5) {
            x.run(1);
        }
        Image image = Image.of(x);
        Kit.due("the clock", x.clock(), 35);
        section("threads", image, 2, 0, 0, 0, 1, 50, 3, 2);
        section("threads", image, 3, 2, 0, 0, 0, 1, 0, 0, 0, 2);
        section("threads", image, 4, 0, 3, 0, 0, 0, 0, 0, 0, 0, 0, 0, 0, 254, 0, 0, 0, 0, 1, 'q');
        section("threads", image, 6, 2, 1, 0, 0, 2, 2, 1, 2, 0, 2, 0, 0, 1, 0, 0);
        // The sleep began at clock 28.
        int rest = 128 - 35;
        section("threads", image, 7, 4,
            4, 0, 0, 0, 0, 0, 0, 0, 0, rest, 0, 0, 0, 0, 255, 255, 2,
            0, 0, 7, 0, 0, 0, 2, 1, 2, 1,
            3, 0, 14,
            1, 1, 0, 0, 0, 0, 0, 0, 0, 0, 1, 0, 0, 0, 255, 255, 1, 1, 0, 1, 0, 0, 0, 3, 0, 0, 0, 0,
            1, 0, 0, 0, 0, 0, 0, 0, 0, 0, 1, 0, 0, 0, 255, 255, 1, 1, 0, 1, 0, 0, 0, 4, 0, 0, 0, 3,
            5, 0, 0, 0, 0, 0, 0, 0, 0, 0, 0, 0, 0, 0, 0, 255, 1, 2, 0, 1);
        x.run(1);
        Kit.due("the sleeper wakes when its time is there", x.clock(), 129);
    }

    private static void checkpoint() {
        FrostHouse x = Kit.house("res class R { int k; void freeze() { k = 7; throw 9; } void thaw() { sleep(1); } } class A { static R a = new R(); "
            + "static void main() { register(a); R b = new R(); register(b); register(new R()); checkpoint(); } }", 50);
        while (x.about(11) != 0) {
            x.run(1);
        }
        section("a checkpoint", Image.of(x), 8, 0, 0, 1, 0, 2, 1, 2, 2, 1, 2, 0);
        x.run(1);
        Image called = Image.of(x);
        section("freeze is called", called, 8, 0, 0, 1, 1, 2, 1, 2, 2, 1, 2, 0);
        section("freeze is called", called, 7, 1, 0, 0, 0, 0, 0, 0, 0, 0, 0, 0, 0, 0, 0, 0, 255, 255, 2, 0, 0, 0, 0, 0, 0, 2, 2, 0, 11, 0, 0, 0, 2);
        while (x.about(10) < 2) {
            x.run(1);
        }
        section("both have failed", Image.of(x), 8, 0, 0, 1, 2, 2, 1, 2, 2, 1, 2, 2, 0, 0, 0, 9, 0, 0, 0, 9);
        x.run(1);
        section("thaws are due", Image.of(x), 8, 0, 0, 2, 0, 2, 1, 2, 2, 1, 2, 2, 0, 0, 0, 9, 0, 0, 0, 9);
        x.run(100);
        section("dead, and so is b", Image.of(x), 8, 255, 0, 0, 0, 0, 1, 1, 2, 0, 0, 0, 9, 0, 0, 0, 9);
    }

    private static void waits() {
        FrostHouse x = Kit.house("class A { static A l = new A(); static void f(int n) { sync (l) { sync (l) { wait(l, n); } } } "
            + "static void main() { spawn f(0); spawn f(90); sleep(40); sync (l) { notify(l); interrupt(2); sleep(40); } } }", 50);
        while (x.thread(1, 0) != 2 || x.thread(2, 0) != 3) {
            x.run(1);
        }
        Image image = Image.of(x);
        section("two wait", image, 6, 1, 1, 255, 0, 0, 0, 2, 1, 2);
        int at = 1 + 17 + 3 + 17;
        Kit.due("how often it had it", Image.number(image.sections[7], 1 + 17 + 3 + 11, 2), 2);
        Kit.due("a time", Image.number(image.sections[7], at + 3 + 4 + 2 + 6, 4), 89);
        while (x.thread(2, 0) != 1) {
            x.run(1);
        }
        Image later = Image.of(x);
        section("one by notify, one by interrupt", later, 6, 1, 1, 0, 0, 1, 2, 1, 2, 0);
        Kit.due("by notify", later.sections[7][1 + 25 + 13], 1);
        Kit.due("by interrupt", later.sections[7][1 + 25 + 13 + 26], 3);
    }

    private static void turns() {
        FrostHouse x = Kit.house("class A { static void main() { sleep(5); print(1); } }", 9);
        x.run(2);
        section("it has slept", Image.of(x), 2, 0, 0, 0, 1, 9, 0, 2);
        x.run(1);
        section("it came to hand again", Image.of(x), 2, 0, 0, 0, 1, 9, 0, 1);
    }
}
