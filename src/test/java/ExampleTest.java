import java.nio.charset.StandardCharsets;

/** The example of README.md: a program that freezes itself, goes on, and goes on once more from its image. */
public final class ExampleTest {
    private static final String TEXT = "res class R { void freeze() { print(\"to bed\"); } void thaw() { print(\"up\"); } }\n"
        + "class A { static R r = new R();\n"
        + "  static void main() { register(r); print(checkpoint()); print(arg()); } }\n";

    public static void main(String[] args) {
        FrostHouse x = new FrostHouse();
        put(x, TEXT);
        Kit.due("load(10)", x.load(10), 3);

        x.run(20000);
        Kit.due("about(0)", x.about(0), 2);
        Kit.due("out", printed(x), "to bed\n");

        Kit.due("thaw()", x.thaw(), true);
        x.run(20000);
        Kit.due("about(0)", x.about(0), 3);
        Kit.due("out", printed(x), "to bed\nup\n1\n0\n");

        Kit.due("take()", x.take(), x.about(2));
        Kit.due("restore(500, 7)", x.restore(500L, 7), 0);
        x.run(20000);
        Kit.due("about(0)", x.about(0), 3);
        Kit.due("out", printed(x), "up\n1\n7\n");

        Kit.due("patch(30, 33)", x.patch(30, 33), true);
        Kit.due("restore(500, 7)", x.restore(500L, 7), 2);
        Kit.due("seal()", x.seal(), true);
        Kit.due("restore(500, 7)", x.restore(500L, 7), 3);
        Kit.due("fault(3)", x.fault(3), 12);

        put(x, "class A { void f() { x = 1; } }");
        Kit.due("load(10)", x.load(10), FrostHouse.NONE);
        Kit.due("fault(0)", x.fault(0), 2);
        Kit.due("fault(1)", x.fault(1), 21);
        Kit.due("out", printed(x), "up\n1\n7\n");
        Kit.done();
    }

    private static void put(FrostHouse x, String text) {
        byte[] b = text.getBytes(StandardCharsets.ISO_8859_1);
        x.end(0);
        for (int i = 0; i < b.length; i += 20) {
            x.feed(four(b, i), four(b, i + 4), four(b, i + 8), four(b, i + 12), four(b, i + 16));
        }
        x.end(b.length);
    }

    private static int four(byte[] b, int at) {
        int v = 0;
        for (int i = at; i < at + 4; i++) {
            v = v << 8 | (i < b.length ? b[i] & 255 : 0);
        }
        return v;
    }

    private static String printed(FrostHouse x) {
        StringBuilder all = new StringBuilder();
        for (int i = 0; x.out(i) >= 0; i++) {
            all.append((char) x.out(i));
        }
        return all.toString();
    }
}
