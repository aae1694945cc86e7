import java.util.Arrays;
import java.util.function.Consumer;

/** Promise 15, restore: what is refused, by which kind, at which place; and what goes on. */
public final class RestoreTest {
    private static final String THREADS = "class A { static A l = new A(); static A k = new A(); A me() { sync (l) { sync (this) { sync (l) { sleep(100); } } } return this; } "
        + "static void f(int n, text t) { sync (l) { print(n); } } static void g() { join(0); } "
        + "static void main() { spawn f(3, null); spawn f(4, \"q\"); spawn g(); interrupt(1); A a = k.me(); } }";
    private static final String POINT = "res class R { int k; void freeze() { sleep(9); } void thaw() { sleep(9); } } class A { static R a = new R(); static R b = new R(); static text t = \"u\"; "
        + "static void main() { register(a); register(b); checkpoint(); checkpoint(); } }";
    private static final String WAITS = "class A { static A l = new A(); static A k = new A(); static void f(int n) { sync (l) { sync (l) { wait(l, n); } } } "
        + "static void main() { spawn f(0); spawn f(90); sync (k) { sleep(80); sync (l) { notify(l); sleep(40); } } } }";
    private static final String CLASSES = "class B { static int x = sleep(50); static A q; } class A { static void f() { print(B.x); } static void main() { spawn f(); sleep(2); print(B.x); } }";

    public static void main(String[] args) {
        clocks();
        layouts();
        sealsAndTexts();
        numbers();
        threadNumbers();
        pointNumbers();
        contents();
        rules1to3();
        rule4();
        rules5to7();
        retold();
        goesOn();
        Kit.done();
    }

    static FrostHouse threads() {
        FrostHouse x = Kit.house(THREADS, 50);
        while (x.thread(2, 0) != 1 || x.thread(3, 0) != 5) {
            x.run(1);
        }
        return x;
    }

    static FrostHouse point(int frames) {
        FrostHouse x = Kit.house(POINT, 50);
        while (x.about(11) != 0 || x.thread(0, 1) != frames) {
            x.run(1);
        }
        return x;
    }

    static FrostHouse waits(int state) {
        FrostHouse x = Kit.house(WAITS, 50);
        while (x.thread(2, 0) != 3 || x.thread(1, 0) != state) {
            x.run(1);
        }
        return x;
    }

    static FrostHouse classes() {
        FrostHouse x = Kit.house(CLASSES, 2);
        while (x.thread(0, 0) != 6 && x.thread(1, 0) != 6) {
            x.run(1);
        }
        return x;
    }

    static void refused(String what, FrostHouse x, Consumer<Image> change, int kind, int place) {
        Image image = Image.of(x);
        change.accept(image);
        tape(what, image.build(), kind, place);
    }

    /** A change of a section's byte that is refused with kind 4 at that byte, or another one. */
    static void number(String what, FrostHouse x, int section, int at, int v) {
        Image image = Image.of(x);
        int place = image.place(section, at);
        refused(what, x, i -> i.change(section, at, v), 4, place);
    }

    static void tape(String what, byte[] bytes, int kind, int place) {
        FrostHouse y = Kit.house("class A { static void main() { print(5); } }", 1);
        Kit.tape(y, bytes);
        Kit.due(what + ": restore", y.restore(0, 0), kind);
        Kit.due(what + ": fault(2)", y.fault(2), kind);
        Kit.due(what + ": fault(3)", y.fault(3), kind == 0 ? -1 : place);
        Kit.due(what + ": the tape stays", y.about(1), bytes.length);
        y.run(1000);
        Kit.due(what + ": the machine stays", Kit.out(y).equals("5|"), kind != 0);
        Kit.due(what + ": load's fault stays", y.fault(0), 0);
    }

    private static void clocks() {
        FrostHouse x = Kit.house("class A { static void main() { print(arg()); sleep(3); print(time()); } }", 1);
        x.run(5);
        x.freeze();
        x.take();
        x.patch(0, 1);
        Kit.due("a wrong tape", x.restore(0, 0), 1);
        x.patch(0, 70);
        Kit.due("clock below 0", x.restore(-1, 0), 7);
        Kit.due("clock above the most", x.restore(4000000000000000001L, 0), 7);
        Kit.due("fault(2) stays", x.fault(2), 1);
        Kit.due("fault(3) stays", x.fault(3), 0);
        Kit.due("the machine stays", x.clock(), 5);
        Kit.due("out stays", x.about(3), 2);
        Kit.due("the greatest clock", x.restore(4000000000000000000L, -9), 0);
        Kit.due("fault(2)", x.fault(2), 0);
        Kit.due("fault(3)", x.fault(3), -1);
        Kit.due("out is empty", x.about(3), 0);
        Kit.due("clock", x.clock(), 4000000000000000000L);
        x.run(100);
        // It had slept two of three: INT and sleep are done, the clock was 5 and its time 7.
        Kit.due("time's lowest bits", Kit.out(x), (int) 4000000000000000003L + "|");
        Kit.due("clock", x.clock(), 4000000000000000007L);
        FrostHouse y = Kit.house("class A { static void main() { sleep(1); print(arg()); } }", 1);
        y.freeze();
        y.take();
        y.restore(7, -9);
        y.run(100);
        Kit.due("arg", Kit.out(y), "-9|");
        Kit.load(y, "class A { static void main() { print(arg()); } }", 1);
        y.run(10);
        Kit.due("arg behind load", Kit.out(y), "0|");
    }

    private static void layouts() {
        tape("an empty tape", Image.bytes(), 1, 0);
        tape("one byte", Image.bytes(70), 1, 1);
        tape("a wrong first byte", Image.bytes(71), 1, 0);
        tape("two bytes", Image.bytes(70, 82), 1, 2);
        tape("a wrong second byte", Image.bytes(70, 83, 1), 1, 1);
        tape("a wrong third byte", Image.bytes(70, 82, 2), 1, 2);
        tape("five bytes", Image.bytes(70, 82, 1, 0, 0), 1, 5);
        tape("a length that begins wrong", Image.bytes(70, 82, 1, 0, 1), 1, 3);
        tape("seven bytes", Image.bytes(70, 82, 1, 0, 0, 0, 7), 1, 7);
        tape("seven bytes, told as eight", Image.bytes(70, 82, 1, 0, 0, 0, 8), 1, 3);
        tape("ten bytes", Image.bytes(70, 82, 1, 0, 0, 0, 10, 1, 2, 3), 1, 10);
        tape("eleven bytes", Image.bytes(70, 82, 1, 0, 0, 0, 11, 1, 2, 3, 4), 1, 7);
        tape("four bytes of a section", Image.bytes(70, 82, 1, 0, 0, 0, 15, 1, 0, 0, 0, 1, 2, 3, 4), 1, 7);
        tape("an empty section", Image.bytes(70, 82, 1, 0, 0, 0, 16, 1, 0, 0, 0, 0, 1, 2, 3, 4), 1, 12);
        tape("a section too long", Image.bytes(70, 82, 1, 0, 0, 0, 16, 1, 0, 0, 0, 1, 1, 2, 3, 4), 1, 8);
        tape("a section far too long", Image.bytes(70, 82, 1, 0, 0, 0, 16, 1, 255, 255, 255, 255, 1, 2, 3, 4), 1, 8);
        byte[] all = Image.of(threads()).build();
        Image image = new Image(all);
        for (int section = 1; section <= 8; section++) {
            byte[] other = all.clone();
            other[image.place(section, -5)] = 9;
            tape("another number of section " + section, other, 1, image.place(section, -5));
            byte[] longer = all.clone();
            longer[image.place(section, -4)] = 1;
            tape("another length of section " + section, longer, 1, image.place(section, -4));
        }
        byte[] shorter = all.clone();
        shorter[image.place(8, -1)]--;
        tape("a byte behind section 8", shorter, 1, image.place(8, image.sections[8].length - 1));
        byte[] cut = Arrays.copyOf(all, all.length - 1);
        tape("a tape cut short", cut, 1, 3);
        byte[] grown = Arrays.copyOf(all, all.length + 1);
        tape("a tape grown", grown, 1, 3);
    }

    private static void sealsAndTexts() {
        byte[] all = Image.of(threads()).build();
        byte[] other = all.clone();
        other[20] ^= 1;
        tape("another byte", other, 2, all.length - 4);
        byte[] crc = all.clone();
        crc[all.length - 1] ^= 1;
        tape("another CRC", crc, 2, all.length - 4);
        refused("a text with a fault", threads(), i -> i.change(1, 5, '1'), 3, 12);
        refused("an empty text", threads(), i -> i.set(1), 3, 12);
        refused("a text too long", threads(), i -> i.sections[1] = Arrays.copyOf(i.sections[1], 2001), 3, 12);
        refused("a fault ahead of numbers", threads(), i -> i.change(1, 5, '1').set(2), 3, 12);
    }

    private static void numbers() {
        FrostHouse x = threads();
        number("quantum 0", x, 2, 4, 0);
        number("quantum 51", x, 2, 4, 51);
        number("hand 8", x, 2, 5, 8);
        number("hand 255", x, 2, 5, 255);
        number("steps above quantum", x, 2, 6, 51);
        number("class state 4", x, 3, 0, 4);
        refused("a value above the objects", x, i -> i.change(3, 4, 4), 4, new Image(Image.of(x).build()).place(3, 1));
        refused("a value far above", x, i -> i.change(3, 1, 128), 4, new Image(Image.of(x).build()).place(3, 1));
        int place4 = Image.of(x).place(4, 0);
        refused("201 objects", x, i -> i.change(4, 1, 201), 4, place4);
        refused("60000 objects", x, i -> i.change(4, 0, 240), 4, place4);
        refused("objects by less than two bytes", x, i -> i.set(4, 0), 4, Image.of(x).place(3, 1));
        number("an object's class", x, 4, 2, 1);
        number("an object's class", x, 4, 2, 253);
        refused("a text of 41 bytes", x, i -> i.change(4, 17, 41), 4, Image.of(x).place(4, 17));
        number("a text's byte 31", x, 4, 18, 31);
        number("a text's byte 127", x, 4, 18, 127);
        number("an interned 0", x, 5, 1, 0);
        number("an interned 4", x, 5, 1, 4);
        number("201 interned ones", x, 5, 0, 201);
        number("201 monitors", x, 6, 0, 201);
        number("a monitor 0", x, 6, 1, 0);
        number("a monitor 4", x, 6, 1, 4);
        number("an owner 8", x, 6, 2, 8);
        number("nine in a queue", x, 6, 5, 9);
        number("a queue's 8", x, 6, 6, 8);
        number("a queue's 255", x, 6, 7, 255);
        number("nine that wait", x, 6, 8, 9);
        FrostHouse row = Kit.house("class A { static row r = new row[30]; static void main() { r[0] = 1; while (1) { } } }", 1);
        row.run(9);
        number("31 ints", row, 4, 7, 31);
        FrostHouse waits = waits(2);
        number("a waiter's 8", waits, 6, 7, 8);
        number("a waiter's 255", waits, 6, 8, 255);
        FrostHouse begun = classes();
        number("a begun class's thread 8", begun, 3, 1, 8);
        number("a begun class's thread 255", begun, 3, 1, 255);
    }

    private static void threadNumbers() {
        FrostHouse x = threads();
        number("no threads", x, 7, 0, 0);
        number("nine threads", x, 7, 0, 9);
        number("state 9", x, 7, 1, 9);
        number("flag 2", x, 7, 2, 2);
        refused("a time", x, i -> i.change(7, 7, 128), 4, Image.of(x).place(7, 7));
        number("an object 4", x, 7, 11, 4);
        number("an outcome 4", x, 7, 14, 4);
        number("joins 8", x, 7, 15, 8);
        number("class 1", x, 7, 16, 1);
        number("31 frames", x, 7, 17, 31);
        number("method 5", x, 7, 18, 5);
        refused("an instruction that is none", x, i -> i.change(7, 20, 40), 4, Image.of(x).place(7, 19));
        refused("an instruction far above", x, i -> i.change(7, 19, 1), 4, Image.of(x).place(7, 19));
        refused("this above the objects", x, i -> i.change(7, 24, 9), 4, Image.of(x).place(7, 21));
        number("a held 0", x, 7, 25, 0);
        number("a held 4", x, 7, 27, 4);
    }

    private static void pointNumbers() {
        FrostHouse x = point(2);
        number("a checkpoint's thread 8", x, 8, 0, 8);
        number("a checkpoint's frame 30", x, 8, 1, 30);
        number("a phase 4", x, 8, 2, 4);
        number("13 of list", x, 8, 4, 13);
        number("a list's 0", x, 8, 5, 0);
        number("a list's 4", x, 8, 6, 4);
        number("13 registered ones", x, 8, 7, 13);
        number("a registered 4", x, 8, 9, 4);
        number("21 failures", x, 8, 10, 21);
        refused("called far above", x, i -> i.change(8, 3, 255), 5, 2);
    }

    private static void contents() {
        for (int section = 2; section <= 8; section++) {
            int s = section;
            FrostHouse x = threads();
            Image image = Image.of(x);
            int size = image.sections[s].length;
            if (s != 4) {
                refused("section " + s + " has a byte more", x, i -> i.splice(s, size, 0, 0), 4, image.place(s, size));
            }
            refused("section " + s + " has a byte less", x, i -> i.splice(s, size - 1, 1), 4, image.place(s, size - 1));
            refused("section " + s + " is empty", x, i -> i.set(s), 4, s == 4 ? image.place(3, 1) : image.place(s, 0));
        }
        FrostHouse y = Kit.house("class A { static int a; static void main() { } }", 1);
        refused("a cut value", y, i -> i.set(3, 0, 0, 0), 4, Image.of(y).place(3, 3));
        refused("behind objects", threads(), i -> i.splice(4, 19, 0, 0), 4, Image.of(threads()).place(4, 19));
    }

    private static void rules1to3() {
        FrostHouse x = threads();
        refused("a static of another type", x, i -> i.change(3, 4, 3), 5, 1);
        refused("a variable of another type", x, i -> i.change(7, 24, 3), 5, 1);
        refused("an interned one that is no text", x, i -> i.change(5, 1, 1), 5, 1);
        FrostHouse p = point(2);
        refused("a list's text", p, i -> i.change(8, 5, 3), 5, 1);
        refused("a registered text", p, i -> i.change(8, 8, 3), 5, 1);
        FrostHouse fields = Kit.house("class A { A n; text t; static A a = new A(); static void main() { a.n = a; a.t = \"x\"; while (1) { } } }", 1);
        fields.run(20);
        refused("a field of another type", fields, i -> i.change(4, 10, 2), 5, 1);
        FrostHouse nulls = Kit.house("class A { static A a = new A(); static void f(A x) { } static void main() { A.a = null; A.a = new A(); f(null); } }", 1);
        while (nulls.thread(0, 3) != 5) {
            nulls.run(1);
        }
        refused("the word null", nulls, i -> i.change(7, 24, 1), 5, 1);
        refused("dead with frames", fields, i -> i.change(7, 1, 7), 5, 2);
        refused("alive without frames", x, i -> i.splice(7, i.sections[7].length - 4, 4, 0), 5, 2);
        refused("an initialiser alone", x, i -> i.change(7, i.sections[7].length - 3, 4, 0, 0), 5, 2);
        refused("above what is no call", x, i -> i.change(7, 30, 13), 5, 2);
        refused("a freeze of one that was not called", p, i -> i.change(8, 3, 2), 5, 2);
        refused("a freeze while thaws are due", p, i -> i.change(8, 2, 2), 5, 2);
        refused("a freeze of another thread's", p, i -> i.change(8, 0, 1), 5, 2);
        refused("a freeze of none", p, i -> i.set(8, 255, 0, 0, 0, 0, 2, 1, 2, 0), 5, 2);
        refused("a freeze of another this", p, i -> i.change(7, 24, 1), 5, 2);
        refused("sleeps at a join", x, i -> i.change(7, i.sections[7].length - 20, 4), 5, 3);
        refused("joins none", x, i -> i.change(7, i.sections[7].length - 6, 255), 5, 3);
        refused("joins one that there is not", x, i -> i.change(7, i.sections[7].length - 6, 4), 5, 3);
        refused("joins at a sleep", x, i -> i.change(7, 1, 5), 5, 3);
        FrostHouse w = waits(2);
        int timed = 1 + 17 + 4 + 17 + 9;
        Kit.due("one waits with a time", Image.of(w).sections[7][timed], 3);
        refused("waits without one, at a wait of two args", w, i -> i.change(7, timed, 2, 0, 0, 0, 0, 0, 0, 0, 0, 0), 0, -1);
        FrostHouse c = classes();
        int waiter = c.thread(0, 0) == 6 ? 0 : 1;
        Kit.due("a thread waits for a class", waiter, 0);
        refused("waits for another class", c, i -> i.change(7, 16, 1), 5, 3);
        refused("waits for no class", c, i -> i.change(7, 16, 255), 5, 3);
    }

    private static void rule4() {
        FrostHouse x = threads();
        // Section 6: 2, then 1 0 0 2 2 1 2 0, then 2 0 0 1 0 0.
        refused("twice in a queue", x, i -> i.change(6, 7, 1), 5, 4);
        refused("in no queue", x, i -> i.splice(6, 5, 3, 1, 1), 5, 4);
        refused("another one in a queue", x, i -> i.change(6, 7, 3), 5, 4);
        refused("one that there is not in a queue", x, i -> i.splice(6, 5, 1, 3, 7), 5, 4);
        refused("among those that wait", x, i -> i.splice(6, 5, 4, 1, 1, 1, 2), 5, 4);
        refused("in another object's queue", x, i -> i.change(7, 41, 2), 5, 4);
        refused("more often than held", x, i -> i.change(6, 4, 3), 5, 4);
        refused("less often than held", x, i -> i.change(6, 4, 1), 5, 4);
        refused("another owner", x, i -> i.change(6, 10, 3), 5, 4);
        refused("an owner that there is not", x, i -> i.change(6, 10, 7), 5, 4);
        refused("no owner", x, i -> i.change(6, 10, 255), 5, 4);
        refused("no owner, told 0 times", x, i -> i.change(6, 10, 255, 0, 0), 5, 4);
        refused("no owner, with a queue", x, i -> i.change(6, 2, 255, 0, 0), 5, 4);
        refused("a monitor is missing", x, i -> i.set(6, 1, 1, 0, 0, 2, 2, 1, 2, 0), 5, 4);
        refused("two of one", x, i -> i.set(6, 3, 1, 0, 0, 2, 2, 1, 2, 0, 2, 0, 0, 1, 0, 0, 2, 0, 0, 1, 0, 0), 5, 4);
        refused("a monitor of what none has", x, i -> i.set(6, 3, 1, 0, 0, 2, 2, 1, 2, 0, 2, 0, 0, 1, 0, 0, 3, 0, 0, 0, 0, 0), 5, 4);
        FrostHouse w = waits(2);
        Image image = Image.of(w);
        Kit.due("section 6", Arrays.toString(image.sections[6]), "[2, 1, -1, 0, 0, 0, 2, 1, 2, 2, 0, 0, 1, 0, 0]");
        int first = 1 + 17 + 4;
        Kit.due("a thread that waits", image.sections[7][first], 2);
        refused("had it once more", w, i -> i.change(7, first + 12, 3), 5, 4);
        refused("had it never", w, i -> i.change(7, first + 12, 0), 5, 4);
        refused("an owner that waits for it", w, i -> i.change(6, 2, 1, 0, 2), 5, 4);
        refused("waits once more", w, i -> i.splice(6, 6, 3, 3, 1, 2, 1), 5, 4);
        refused("waits and queues", w, i -> i.splice(6, 5, 1, 1, 2), 5, 4);
    }

    private static void rules5to7() {
        FrostHouse x = threads();
        refused("begun without its initialiser", x, i -> i.splice(3, 0, 1, 1, 0), 5, 5);
        FrostHouse c = classes();
        Kit.due("classes", Arrays.toString(Image.of(c).sections[3]), "[1, 1, 2, 0, 0, 0, 0, 0, 0, 0, 0]");
        refused("an initialiser of one that is done", c, i -> i.splice(3, 0, 2, 2), 5, 5);
        refused("begun by another thread", c, i -> i.change(3, 1, 0), 5, 5);
        FrostHouse p = point(1);
        Kit.due("section 8", Arrays.toString(Image.of(p).sections[8]), "[0, 0, 1, 0, 2, 1, 2, 2, 1, 2, 0]");
        refused("none with a frame", x, i -> i.change(8, 1, 1), 5, 6);
        refused("none with a phase", x, i -> i.change(8, 2, 1), 5, 6);
        refused("none with a call", x, i -> i.change(8, 3, 1), 5, 6);
        refused("none with a list", p, i -> i.change(8, 0, 255, 0, 0, 0), 5, 6);
        refused("one without a phase", p, i -> i.change(8, 2, 0), 5, 6);
        refused("one of a thread that there is not", p, i -> i.change(8, 0, 3), 5, 6);
        refused("one of another frame", p, i -> i.change(8, 1, 1), 5, 6);
        refused("one not at checkpoint()", x, i -> i.change(8, 0, 0, 0, 1), 5, 6);
        refused("more called than there are", p, i -> i.change(8, 3, 3), 5, 6);
        refused("a list's twice", p, i -> i.change(8, 6, 1), 5, 6);
        refused("a registered one's twice", p, i -> i.change(8, 9, 1), 5, 6);
        refused("an interned one twice", x, i -> i.set(5, 2, 3, 3), 5, 6);
        FrostHouse t = Kit.house("class A { static text a = \"x\"; static text b = \"y\"; static void main() { A.a = a; while (1) { } } }", 1);
        t.run(20);
        refused("two interned ones alike", t, i -> i.change(4, 15, 'x'), 5, 6);
        refused("a hand that there is not", x, i -> i.change(2, 5, 4), 5, 7);
        refused("an even hash", x, i -> i.change(4, 6, 2), 5, 7);
        refused("a hash below 0", x, i -> i.change(4, 3, 128, 0, 0, 1), 5, 7);
        refused("dead by something, but alive", x, i -> i.change(7, 6, 1), 5, 7);
        FrostHouse r = Kit.house("class A { static A l = new A(); static void main() { A.l = l; while (1) { } } }", 1);
        r.run(20);
        refused("a time", r, i -> i.change(7, 10, 1), 5, 7);
        refused("an object", r, i -> i.change(7, 11, 1), 5, 7);
        refused("had it", r, i -> i.change(7, 13, 1), 5, 7);
        refused("an outcome", r, i -> i.change(7, 14, 1), 5, 7);
        refused("joins", r, i -> i.change(7, 15, 0), 5, 7);
        refused("a class", r, i -> i.change(7, 16, 0), 5, 7);
        FrostHouse d = Kit.house("class A { static void main() { } }", 1);
        d.run(5);
        refused("dead and interrupted", d, i -> i.change(7, 2, 1), 5, 7);
        FrostHouse b = waits(1);
        int blocked = 1 + 17 + 9;
        Kit.due("one is blocked behind a wait", Image.of(b).sections[7][blocked], 1);
        Kit.due("by notify", Image.of(b).sections[7][blocked + 13], 1);
        refused("blocked behind a wait by nothing", b, i -> i.change(7, blocked + 13, 0), 5, 7);
        refused("blocked behind a wait by time", b, i -> i.change(7, blocked + 13, 2), 0, -1);
    }

    private static void retold() {
        FrostHouse x = threads();
        Image image = Image.of(x);
        refused("other numbers of objects", x, i -> i.change(3, 4, 2, 0, 0, 0, 1), 6, image.place(3, 4));
        refused("monitors not by rising objects", x, i -> i.set(6, 2, 2, 0, 0, 1, 0, 0, 1, 0, 0, 2, 2, 1, 2, 0), 6, image.place(6, 1));
        refused("an object that is not reached", x, i -> i.splice(4, 19, 0, 0, 0, 0, 0, 0).change(4, 1, 4), 6, 6);
        refused("a monitor that is none", x, i -> i.set(6, 3, 1, 0, 0, 2, 2, 1, 2, 0, 2, 0, 0, 1, 0, 0, 3, 255, 0, 0, 0, 0), 6, 6);
    }

    private static void goesOn() {
        FrostHouse[] all = {threads(), point(1), point(2), waits(2), waits(1), classes()};
        for (FrostHouse x : all) {
            x.freeze();
            byte[] image = Kit.image(x);
            FrostHouse y = new FrostHouse();
            Kit.tape(y, image);
            Kit.due("restore", y.restore(x.clock(), 0), 0);
            Kit.due("the tape stays", y.about(1), image.length);
            y.freeze();
            Kit.due("told again", Arrays.equals(image, Kit.image(y)), true);
            Kit.due("steps", y.run(300), x.run(300));
            Kit.due("clock", y.clock(), x.clock());
            Kit.due("state", y.about(0), x.about(0));
        }
        FrostHouse h = Kit.house("class A { static void main() { sleep(1); open(); print(1); while (1) { } } }", 1);
        h.freeze();
        h.run(20);
        Kit.due("an open handle", h.about(9), 1);
        h.take();
        Kit.due("restore", h.restore(0, 0), 0);
        Kit.due("no handle", h.about(9), 0);
        Kit.due("no out", h.about(3), 0);
    }
}
