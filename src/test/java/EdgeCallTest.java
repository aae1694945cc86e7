import java.nio.charset.StandardCharsets;
import java.util.Arrays;

/** The promises' own edges, one test for each sentence of the document that names one; the sentence stands above it. */
public final class EdgeCallTest {
    private static final int NONE = FrostHouse.NONE;
    private static final int LEAST = -2147483648;
    private static final int MOST = 2147483647;
    private static final String LOOP = "class A { static void main() { while (1) { } } }";
    private static final String SHORT = "class A { static void main() { } }";

    public static void main(String[] args) {
        aNewObject();
        feedOrder();
        feedFull();
        endBounds();
        loadQuantum();
        loadEmptiesTheTape();
        loadLeavesAllElse();
        loadBeginsAnew();
        faultOfLoad();
        faultOfRestore();
        faultOfLongText();
        runBounds();
        runEnds();
        aboutStates();
        aboutOthers();
        aboutCounts();
        clockWithout();
        outKept();
        freezeRefused();
        freezeGoesOn();
        imageBounds();
        takeBounds();
        patchBounds();
        sealBounds();
        restoreClock();
        restoreRefused();
        restoreAnew();
        thawStates();
        threadBounds();
        methodBounds();
        klassBounds();
        manyMethods();
        Kit.done();
    }

    private static byte[] bytes(String text) {
        return text.getBytes(StandardCharsets.ISO_8859_1);
    }

    private static FrostHouse ended() {
        FrostHouse x = Kit.house(SHORT, 1);
        x.run(5);
        return x;
    }

    private static FrostHouse stuck() {
        FrostHouse x = Kit.house("class A { static void main() { join(0); } }", 1);
        x.run(5);
        return x;
    }

    private static FrostHouse frozen() {
        FrostHouse x = Kit.house("class A { static void main() { checkpoint(); print(1); } }", 1);
        x.run(5);
        return x;
    }

    // "An empty tape, no program, no image."
    private static void aNewObject() {
        FrostHouse x = new FrostHouse();
        Kit.due("an empty tape", x.about(1), 0);
        Kit.due("end(0)", x.end(0), true);
        Kit.due("end(1)", x.end(1), false);
        Kit.due("patch", x.patch(0, 0), false);
        Kit.due("seal", x.seal(), false);
        Kit.due("no program", x.about(0), 0);
        Kit.due("run", x.run(1), 0);
        Kit.due("thaw", x.thaw(), false);
        Kit.due("freeze", x.freeze(), NONE);
        Kit.due("no image", x.about(2), 0);
        Kit.due("image", x.image(0), NONE);
        Kit.due("take", x.take(), NONE);
        Kit.due("restore of an empty tape", x.restore(0, 0), 1);
        Kit.due("its place is the tape's length", x.fault(3), 0);
        FrostHouse y = new FrostHouse();
        Kit.due("load of an empty tape", y.load(1), NONE);
        Kit.due("kind", y.fault(0), 1);
        Kit.due("at the end", y.fault(1), 0);
    }

    // "Twenty bytes come behind those on the tape, of each number the highest first."
    private static void feedOrder() {
        FrostHouse x = new FrostHouse();
        byte[] text = bytes(SHORT + "      ");
        Kit.due("a text of forty bytes", text.length, 40);
        for (int i = 0; i < 40; i += 20) {
            int[] v = new int[5];
            for (int k = 0; k < 5; k++) {
                v[k] = Image.number(text, i + 4 * k, 4);
            }
            Kit.due("feed", x.feed(v[0], v[1], v[2], v[3], v[4]), i + 20);
        }
        Kit.due("load", x.load(1), 1);
        x.freeze();
        byte[] image = Kit.image(x);
        Kit.due("the bytes as they were fed", new String(image, 12, 40, StandardCharsets.ISO_8859_1), SHORT + "      ");
        FrostHouse y = new FrostHouse();
        Kit.due("bytes of negative numbers", y.feed(-1, LEAST, MOST, 0, -2), 20);
        Kit.due("behind what was cut", y.end(3) && y.feed(0, 0, 0, 0, 0) == 23, true);
    }

    // "NONE, doing nothing, when there would be more than 65,000."
    private static void feedFull() {
        FrostHouse x = new FrostHouse();
        byte[] text = bytes(SHORT);
        byte[] all = new byte[64980];
        Arrays.fill(all, (byte) 'x');
        System.arraycopy(text, 0, all, 0, text.length);
        Kit.tape(x, all);
        Kit.due("64,980", x.about(1), 64980);
        Kit.due("the last twenty", x.feed(1, 2, 3, 4, 5), 65000);
        Kit.due("one more", x.feed(1, 2, 3, 4, 5), NONE);
        Kit.due("as many as before", x.about(1), 65000);
        Kit.due("64,981", x.end(64981), true);
        Kit.due("would be 65,001", x.feed(1, 2, 3, 4, 5), NONE);
        Kit.due("as many as before", x.about(1), 64981);
        x.end(text.length);
        Kit.due("its first bytes are as before", x.load(1), 1);
    }

    // "The tape has its first n bytes alone: true; false when it has not so many, or n is below 0."
    private static void endBounds() {
        FrostHouse x = new FrostHouse();
        x.feed(1, 2, 3, 4, 5);
        Kit.due("end(21)", x.end(21), false);
        Kit.due("end(-1)", x.end(-1), false);
        Kit.due("end(least)", x.end(LEAST), false);
        Kit.due("end(most)", x.end(MOST), false);
        Kit.due("nothing is cut", x.about(1), 20);
        Kit.due("end(20)", x.end(20), true);
        Kit.due("nothing is cut", x.about(1), 20);
        Kit.due("end(19)", x.end(19), true);
        Kit.due("one is cut", x.about(1), 19);
        Kit.due("end(20) then", x.end(20), false);
        Kit.due("end(0)", x.end(0), true);
        Kit.due("none is left", x.about(1), 0);
    }

    // "NONE with another quantum than 1 .. 50 (asked first: the TEXT is not looked at)."
    private static void loadQuantum() {
        for (int quantum : new int[] {0, 51, -1, LEAST, MOST, 257}) {
            FrostHouse x = Kit.house(LOOP, 7);
            x.run(10);
            Kit.due("a right text, quantum " + quantum, Kit.load(x, SHORT, quantum), NONE);
            Kit.due("no fault", x.fault(0), 0);
            Kit.due("a wrong text, quantum " + quantum, Kit.load(x, "klass", quantum), NONE);
            Kit.due("it is not looked at", x.fault(0), 0);
            Kit.due("no place", x.fault(1), NONE);
            Kit.due("the machine stays", x.run(10), 10);
            Kit.due("its clock, too", x.clock(), 20);
        }
        Kit.due("quantum 1", Kit.load(new FrostHouse(), SHORT, 1), 1);
        Kit.due("quantum 50", Kit.load(new FrostHouse(), SHORT, 50), 1);
    }

    // "The tape, which is empty then"; "or a FAULT (the tape is empty in any case)".
    private static void loadEmptiesTheTape() {
        FrostHouse x = new FrostHouse();
        Kit.load(x, SHORT, 1);
        Kit.due("behind a load", x.about(1), 0);
        Kit.load(x, "klass", 1);
        Kit.due("behind a fault", x.about(1), 0);
        Kit.load(x, SHORT, 0);
        Kit.due("behind another quantum", x.about(1), 0);
        Kit.load(x, " ".repeat(3000), 1);
        Kit.due("behind a long text", x.about(1), 0);
    }

    // "all else stays": of a load that answers NONE.
    private static void loadLeavesAllElse() {
        FrostHouse x = Kit.house("class A { static int s = 5; static void main() { print(s); open(); while (1) { } } }", 3);
        x.freeze();
        int length = x.about(2);
        x.run(20);
        Kit.tape(x, bytes("x"));
        x.restore(9, 9);
        Kit.due("a fault of restore", x.fault(2), 1);
        long clock = x.clock();
        for (String text : new String[] {"klass", "class A { int a; int a; }", "class A { static int a = null; }", "class A { }"}) {
            Kit.due("load of " + text, Kit.load(x, text, 9), NONE);
            Kit.due("clock", x.clock(), clock);
            Kit.due("out", Kit.out(x), "5|");
            Kit.due("handles", x.about(9), 1);
            Kit.due("methods", x.about(13), 1);
            Kit.due("a static", x.klass(0, 10), 5);
            Kit.due("image", x.about(2), length);
            Kit.due("restore's fault", x.fault(2), 1);
            Kit.due("restore's place", x.fault(3), 0);
        }
        Kit.due("it goes on", x.run(7), 7);
    }

    // "a machine with it begins, CLOCK 0, ARG 0, OUT empty, no handle."
    private static void loadBeginsAnew() {
        FrostHouse x = Kit.house("class A { static int s = 5; static void main() { print(arg()); open(); hash(\"x\"); checkpoint(); } }", 3);
        x.freeze();
        x.take();
        Kit.due("restore", x.restore(1000, 77), 0);
        x.run(9);
        Kit.due("arg", Kit.out(x), "77|");
        Kit.due("handles", x.about(9), 1);
        Kit.due("a checkpoint", x.about(11), 0);
        int length = x.about(2);
        Kit.load(x, "class A { static int s = 6; static void main() { print(arg()); print(hash(\"x\")); print(open()); print(failures()); } }", 3);
        Kit.due("clock", x.clock(), 0);
        Kit.due("out", x.about(3), 0);
        Kit.due("handles", x.about(9), 0);
        Kit.due("no checkpoint", x.about(11), NONE);
        Kit.due("interned ones", x.about(8), 0);
        Kit.due("objects", x.about(6), 0);
        Kit.due("one thread", x.about(4), 1);
        Kit.due("none dead", x.about(5), 0);
        Kit.due("at hand", x.about(12), 0);
        Kit.due("the class is new", x.klass(0, 0), 0);
        Kit.due("the static is 0", x.klass(0, 10), 0);
        Kit.due("the latest image stays", x.about(2), length);
        x.run(100);
        Kit.due("arg 0, the first hash, handle 0, no failures", Kit.out(x), "0|" + ((1103515245 + 12345) >>> 1 | 1) + "|0|0|");
        // The machine that was restored, with its checkpoint, its ARG and another thread at hand, is in use again now.
        FrostHouse y = Kit.house("class A { static void f() { print(arg()); checkpoint(); } static void main() { spawn f(); sleep(500); } }", 50);
        y.freeze();
        y.take();
        for (int i = 0; i < 4; i++) {
            y.restore(9, 44);
            while (y.about(11) != 1) {
                y.run(1);
            }
            Kit.due("thread 1 is at hand", y.about(12), 1);
            byte[] image = new byte[y.about(1)];
            Kit.load(y, "class A { static void main() { print(arg()); } }", 3);
            Kit.due("at hand", y.about(12), 0);
            Kit.due("no checkpoint", y.about(11), NONE);
            Image told = Image.of(y);
            Kit.due("section 2", Arrays.toString(told.sections[2]), "[0, 0, 0, 1, 3, 0, 0]");
            Kit.due("section 8", Arrays.toString(told.sections[8]), "[-1, 0, 0, 0, 0, 0, 0]");
            if (i % 2 == 0) {
                Kit.load(y, "class A { static void main() { print(arg()); } }", 3);
            }
            y.run(9);
            Kit.due("arg", Kit.out(y), "0|");
            Kit.due("ended", y.about(0), 3);
            Kit.load(y, "class A { static void f() { print(arg()); checkpoint(); } static void main() { spawn f(); sleep(500); } }", 50);
            y.freeze();
            y.take();
            Kit.due("as long", y.about(1), image.length);
        }
    }

    // "Of the latest load() with a quantum 1 .. 50 (restore() does not matter), what 0: its kind (0 without), 1: its place."
    private static void faultOfLoad() {
        FrostHouse x = new FrostHouse();
        Kit.due("no load yet", x.fault(0), 0);
        Kit.due("no place yet", x.fault(1), NONE);
        Kit.load(x, "class A { int a; int a; }", 1);
        Kit.due("kind", x.fault(0), 2);
        Kit.due("place", x.fault(1), 21);
        x.restore(0, 0);
        Kit.due("restore does not matter", x.fault(0), 2);
        Kit.due("restore does not matter", x.fault(1), 21);
        Kit.load(x, SHORT, 51);
        Kit.due("a load with another quantum neither", x.fault(0), 2);
        Kit.due("a load with another quantum neither", x.fault(1), 21);
        Kit.load(x, SHORT, 50);
        Kit.due("a load without", x.fault(0), 0);
        Kit.due("a load without", x.fault(1), NONE);
    }

    // "of the latest restore(), 2: by what it was refused (0 not, or none yet), 3: the place. NONE where there is none such."
    private static void faultOfRestore() {
        FrostHouse x = Kit.house(SHORT, 1);
        Kit.due("none yet", x.fault(2), 0);
        Kit.due("no place yet", x.fault(3), NONE);
        x.freeze();
        x.take();
        x.patch(2, 9);
        x.restore(0, 0);
        Kit.due("refused", x.fault(2), 1);
        Kit.due("at", x.fault(3), 2);
        Kit.load(x, "klass", 1);
        Kit.due("load does not matter", x.fault(2), 1);
        Kit.due("load does not matter", x.fault(3), 2);
        x.take();
        Kit.due("restore", x.restore(0, 0), 0);
        Kit.due("not refused", x.fault(2), 0);
        Kit.due("no place", x.fault(3), NONE);
        for (int what : new int[] {4, -1, 5, LEAST, MOST}) {
            Kit.due("fault(" + what + ")", x.fault(what), NONE);
        }
    }

    // "(A TEXT of more than 2,000 bytes: 1 at 2000.)"
    private static void faultOfLongText() {
        FrostHouse x = new FrostHouse();
        Kit.due("2,000 bytes", Kit.load(x, SHORT + " ".repeat(2000 - SHORT.length()), 1), 1);
        Kit.due("2,001 bytes", Kit.load(x, SHORT + " ".repeat(2001 - SHORT.length()), 1), NONE);
        Kit.due("kind", x.fault(0), 1);
        Kit.due("place", x.fault(1), 2000);
        Kit.load(x, "klass" + " ".repeat(1996), 1);
        Kit.due("also with a token ahead that is wrong", x.fault(1), 2000);
        Kit.load(x, "klass" + " ".repeat(1995), 1);
        Kit.due("that is told with 2,000 bytes", x.fault(1), 0);
        byte[] all = new byte[65000];
        Arrays.fill(all, (byte) ' ');
        Kit.tape(x, all);
        Kit.due("65,000 bytes", x.load(1), NONE);
        Kit.due("place", x.fault(1), 2000);
    }

    // "At most n STEPS (0 .. 20000; NONE for another n)".
    private static void runBounds() {
        FrostHouse x = Kit.house(LOOP, 1);
        for (int n : new int[] {-1, 20001, LEAST, MOST}) {
            Kit.due("run(" + n + ")", x.run(n), NONE);
            Kit.due("without a machine", new FrostHouse().run(n), NONE);
        }
        Kit.due("nothing was done", x.clock(), 0);
        Kit.due("run(0)", x.run(0), 0);
        Kit.due("nothing was done", x.clock(), 0);
        Kit.due("run(1)", x.run(1), 1);
        Kit.due("run(20000)", x.run(20000), 20000);
        Kit.due("clock", x.clock(), 20001);
    }

    // "as long as it goes on: how many were done."
    private static void runEnds() {
        FrostHouse x = Kit.house("class A { static void main() { print(1); } }", 1);
        Kit.due("as many as are left", x.run(20000), 4);
        FrostHouse z = Kit.house("class A { static void main() { print(1); } }", 1);
        Kit.due("all but the last", z.run(3), 3);
        Kit.due("it goes on", z.about(0), 1);
        Kit.due("the last", z.run(1), 1);
        Kit.due("ended behind that step", z.about(0), 3);
        FrostHouse u = Kit.house("class A { static void main() { join(0); } }", 1);
        Kit.due("two steps", u.run(2), 2);
        Kit.due("stuck behind the second", u.about(0), 4);
        Kit.due("none behind the end", x.run(20000), 0);
        Kit.due("none of a stuck one", stuck().run(20000), 0);
        FrostHouse y = frozen();
        Kit.due("none of a frozen one", y.run(20000), 0);
        long clock = y.clock();
        y.thaw();
        // The checkpoint is over in a step, then DROP, INT, print, DROP, RETURN.
        Kit.due("till the end", y.run(20000), 6);
        Kit.due("clock", y.clock(), clock + 6);
    }

    // "What 0: 0 no machine, 1 it goes on, 2 FROZEN, 3 ENDED, 4 STUCK"; "Behind restore() 0 tells 1, 3 or 4."
    private static void aboutStates() {
        Kit.due("no machine", new FrostHouse().about(0), 0);
        FrostHouse[] all = {Kit.house(LOOP, 1), frozen(), ended(), stuck()};
        for (int i = 0; i < all.length; i++) {
            Kit.due("state " + (i + 1), all[i].about(0), i + 1);
            all[i].freeze();
            all[i].take();
            Kit.due("restore of state " + (i + 1), all[i].restore(5, 0), 0);
            Kit.due("behind it", all[i].about(0), i == 1 ? 1 : i + 1);
        }
        FrostHouse x = frozen();
        Kit.load(x, "klass", 1);
        Kit.due("a frozen one stays so behind a refused load", x.about(0), 2);
        x.restore(0, 0);
        Kit.due("and behind a refused restore", x.about(0), 2);
    }

    // "(both NONE without)", "(3 to 10, 13, 14: 0 without a machine). NONE for others."
    private static void aboutOthers() {
        FrostHouse x = new FrostHouse();
        FrostHouse y = Kit.house(LOOP, 1);
        for (int what = 3; what <= 14; what++) {
            Kit.due("about(" + what + ") without a machine", x.about(what), what == 11 || what == 12 ? NONE : 0);
        }
        Kit.due("no checkpoint", y.about(11), NONE);
        Kit.due("a thread at hand", y.about(12), 0);
        for (int what : new int[] {-1, 15, 100, LEAST, MOST}) {
            Kit.due("about(" + what + ")", x.about(what), NONE);
            Kit.due("about(" + what + ")", y.about(what), NONE);
        }
    }

    // "4 threads made, 5 those that are DEAD, ... 12 the thread at hand, 13 METHODS, 14 classes".
    private static void aboutCounts() {
        FrostHouse x = Kit.house("class A { static void f() { sleep(50); } static void main() { int i = 0; while (i < 7) { i = i + 1; spawn f(); } sleep(20); } } class B { int b() { return 1; } } class C { }", 50);
        Kit.due("threads", x.about(4), 1);
        Kit.due("dead", x.about(5), 0);
        while (x.about(5) == 0) {
            x.run(1);
        }
        Kit.due("threads made", x.about(4), 8);
        x.run(1000);
        Kit.due("all are dead", x.about(5), 8);
        Kit.due("the dead are counted as made", x.about(4), 8);
        Kit.due("the last at hand", x.about(12), 7);
        Kit.due("methods without initialisers", x.about(13), 3);
        Kit.due("classes", x.about(14), 3);
    }

    // "The CLOCK; NONE without a machine."
    private static void clockWithout() {
        FrostHouse x = new FrostHouse();
        Kit.due("without a machine", x.clock(), -1L);
        Kit.load(x, "klass", 1);
        Kit.due("behind a refused load", x.clock(), -1L);
        Kit.load(x, LOOP, 1);
        Kit.due("at first", x.clock(), 0L);
        x.freeze();
        x.take();
        x.restore(3999999999999999999L, 0);
        x.run(3);
        Kit.due("above an int", x.clock(), 4000000000000000002L);
    }

    // "Byte i of OUT (the first 4,000 are kept); NONE without."
    private static void outKept() {
        FrostHouse x = Kit.house("class A { static void main() { while (1) { print(123); } } }", 1);
        Kit.due("at first", x.out(0), NONE);
        while (x.about(3) < 4000) {
            x.run(1);
        }
        Kit.due("the 4,000th", x.out(3999), 10);
        Kit.due("there is none behind", x.out(4000), NONE);
        x.run(10);
        Kit.due("more came", x.about(3) > 4000, true);
        Kit.due("the 4,001st is not kept", x.out(4000), NONE);
        Kit.due("the first one is", x.out(0), '1');
        for (int i : new int[] {-1, LEAST, MOST, 4001}) {
            Kit.due("out(" + i + ")", x.out(i), NONE);
        }
        FrostHouse y = Kit.house("class A { static void main() { print(7); } }", 1);
        y.run(9);
        Kit.due("the last one", y.out(1), 10);
        Kit.due("behind the last one", y.out(2), NONE);
    }

    // "NONE without a machine, or when a handle is open."
    private static void freezeRefused() {
        FrostHouse x = Kit.house("class A { static void main() { sleep(1); open(); sleep(1); close(0); while (1) { } } }", 1);
        int first = x.freeze();
        byte[] image = Kit.image(x);
        while (x.about(9) == 0) {
            x.run(1);
        }
        Kit.due("a handle is open", x.freeze(), NONE);
        Kit.due("the image stays", x.about(2), first);
        Kit.due("the image stays", Arrays.equals(image, Kit.image(x)), true);
        while (x.about(9) == 1) {
            x.run(1);
        }
        Kit.due("it is closed", x.freeze() > 0, true);
    }

    // "The machine's state becomes the image (it goes on as if not): how many bytes".
    private static void freezeGoesOn() {
        FrostHouse[] all = {Kit.house(LOOP, 1), frozen(), ended(), stuck()};
        for (int i = 0; i < all.length; i++) {
            long clock = all[i].clock();
            Kit.due("bytes", all[i].freeze(), all[i].about(2));
            Kit.due("its state stays", all[i].about(0), i + 1);
            Kit.due("its clock stays", all[i].clock(), clock);
            Kit.due("its tape stays", all[i].about(1), 0);
            Kit.due("steps", all[i].run(5), i == 0 ? 5 : 0);
        }
    }

    // "Byte i of the latest image; NONE without."
    private static void imageBounds() {
        FrostHouse x = Kit.house(LOOP, 200 - 150);
        int length = x.freeze();
        Kit.due("the first", x.image(0), 70);
        Kit.due("bytes above 127 are not negative", x.image(length - 4 - 7), 255);
        Kit.due("the last", x.image(length - 1) >= 0, true);
        for (int i : new int[] {length, -1, LEAST, MOST}) {
            Kit.due("image(" + i + ")", x.image(i), NONE);
        }
        Kit.load(x, SHORT, 1);
        int shorter = x.freeze();
        Kit.due("a shorter one", shorter < length, true);
        Kit.due("nothing of the earlier one is left", x.image(shorter), NONE);
    }

    // "The tape becomes the latest image: how many bytes; NONE without one."
    private static void takeBounds() {
        FrostHouse x = new FrostHouse();
        x.feed(1, 2, 3, 4, 5);
        Kit.due("without an image", x.take(), NONE);
        Kit.due("the tape stays", x.about(1), 20);
        Kit.load(x, SHORT, 1);
        int length = x.freeze();
        for (int i = 0; i < 50; i++) {
            x.feed(1, 2, 3, 4, 5);
        }
        Kit.due("in place of a longer one", x.take(), length);
        Kit.due("bytes", x.about(1), length);
        Kit.due("restore", x.restore(0, 0), 0);
        x.patch(12, 0);
        Kit.due("the image is not patched", x.image(12), 'c');
        Kit.due("in place of a patched one", x.take(), length);
        Kit.due("restore", x.restore(0, 0), 0);
    }

    // "Byte i of the tape becomes v (its lowest eight bits): true; false without such."
    private static void patchBounds() {
        FrostHouse x = Kit.house(SHORT, 1);
        int length = x.freeze();
        x.take();
        for (int i : new int[] {length, -1, LEAST, MOST}) {
            Kit.due("patch(" + i + ")", x.patch(i, 1), false);
        }
        Kit.due("nothing is changed", x.restore(0, 0), 0);
        Kit.due("70 and 256", x.patch(0, 70 + 256), true);
        Kit.due("its lowest eight bits", x.restore(0, 0), 0);
        Kit.due("70 below 0", x.patch(0, 70 - 256), true);
        Kit.due("its lowest eight bits", x.restore(0, 0), 0);
        Kit.due("the last byte", x.patch(length - 1, x.image(length - 1) ^ 255), true);
        Kit.due("another CRC", x.restore(0, 0), 2);
        x.end(length - 1);
        Kit.due("it is cut", x.patch(length - 1, 0), false);
    }

    // "The tape's last four bytes become the CRC of those ahead: true; false if it has fewer than four."
    private static void sealBounds() {
        FrostHouse x = new FrostHouse();
        for (int size = 0; size < 4; size++) {
            Kit.tape(x, new byte[size]);
            Kit.due("seal of " + size, x.seal(), false);
        }
        Kit.tape(x, new byte[4]);
        Kit.due("seal of four", x.seal(), true);
        Kit.due("as many as before", x.about(1), 4);
        FrostHouse y = Kit.house(SHORT, 1);
        int length = y.freeze();
        y.take();
        for (int i = 1; i <= 4; i++) {
            y.patch(length - i, 0);
        }
        y.seal();
        Kit.due("the CRC that the image has", y.restore(0, 0), 0);
        y.patch(length - 5, 1);
        Kit.due("another byte", y.restore(0, 0), 2);
        y.seal();
        Kit.due("its CRC is right", y.restore(0, 0) == 2, false);
    }

    // "with a CLOCK (0 .. 4000000000000000000) and ARG"; "(7: another CLOCK; fault() stays, too)".
    private static void restoreClock() {
        FrostHouse x = Kit.house("class A { static void main() { print(arg()); print(time()); } }", 1);
        for (long clock : new long[] {-1L, 4000000000000000001L, Long.MIN_VALUE, Long.MAX_VALUE}) {
            Kit.due("an empty tape, another clock", x.restore(clock, 3), 7);
            Kit.due("fault stays", x.fault(2), 0);
            Kit.due("fault stays", x.fault(3), NONE);
        }
        x.freeze();
        x.take();
        Kit.due("another clock", x.restore(-1, 3), 7);
        Kit.due("the machine stays", x.clock(), 0);
        Kit.due("the tape stays", x.about(1), x.about(2));
        for (long clock : new long[] {0L, 4000000000000000000L}) {
            Kit.due("clock " + clock, x.restore(clock, LEAST), 0);
            Kit.due("it is the clock", x.clock(), clock);
            x.run(9);
            Kit.due("arg and time", Kit.out(x), LEAST + "|" + (int) (clock + 3) + "|");
        }
        x.patch(0, 0);
        x.restore(0, 0);
        x.restore(-1, 0);
        Kit.due("the earlier fault stays", x.fault(2), 1);
        Kit.due("the earlier fault stays", x.fault(3), 0);
    }

    // "else by what it is refused": the machine, its OUT, its handles and the tape stay.
    private static void restoreRefused() {
        FrostHouse x = Kit.house("class A { static void main() { print(5); open(); while (1) { } } }", 3);
        x.freeze();
        x.run(20);
        x.take();
        int length = x.about(1);
        x.patch(30, 0);
        Kit.due("refused", x.restore(99, 8), 2);
        Kit.due("the tape stays", x.about(1), length);
        Kit.due("clock", x.clock(), 20);
        Kit.due("out", Kit.out(x), "5|");
        Kit.due("handles", x.about(9), 1);
        Kit.due("it goes on", x.run(5), 5);
        x.seal();
        Kit.due("refused by its text", x.restore(99, 8), 3);
        Kit.due("methods", x.about(13), 1);
        Kit.due("it goes on", x.run(5), 5);
    }

    // "(which stays)"; "that is the machine, OUT empty, no handle open".
    private static void restoreAnew() {
        FrostHouse x = Kit.house("class A { static void main() { print(5); sleep(1); open(); while (1) { } } }", 3);
        x.run(3);
        int length = x.freeze();
        x.run(20);
        x.take();
        Kit.due("restore", x.restore(50, 8), 0);
        Kit.due("the tape stays", x.about(1), length);
        Kit.due("out", x.about(3), 0);
        Kit.due("out", x.out(0), NONE);
        Kit.due("handles", x.about(9), 0);
        Kit.due("clock", x.clock(), 50);
        Kit.due("again", x.restore(60, 8), 0);
        Kit.due("clock", x.clock(), 60);
        Kit.due("the image stays", x.about(2), length);
    }

    // "A FROZEN machine goes on: true; false for others."
    private static void thawStates() {
        Kit.due("no machine", new FrostHouse().thaw(), false);
        Kit.due("one that goes on", Kit.house(LOOP, 1).thaw(), false);
        Kit.due("an ended one", ended().thaw(), false);
        Kit.due("a stuck one", stuck().thaw(), false);
        FrostHouse x = frozen();
        Kit.due("a frozen one", x.thaw(), true);
        Kit.due("it goes on", x.about(0), 1);
        Kit.due("once", x.thaw(), false);
        FrostHouse y = frozen();
        y.take();
        Kit.due("its image", y.restore(0, 0), 0);
        Kit.due("goes on at once", y.thaw(), false);
    }

    // "of its latest FRAME (NONE without) ... NONE without."
    private static void threadBounds() {
        FrostHouse x = Kit.house("class A { static void f(int a) { int b = 1; sync (\"\") { sleep(9); } throw 6; } static void main() { f(3); } }", 1);
        for (int t : new int[] {1, 7, 8, -1, LEAST, MOST}) {
            Kit.due("thread(" + t + ", 0)", x.thread(t, 0), NONE);
        }
        for (int what : new int[] {9, -1, LEAST, MOST}) {
            Kit.due("thread(0, " + what + ")", x.thread(0, what), NONE);
        }
        while (x.thread(0, 0) != 4) {
            x.run(1);
        }
        int[] want = {4, 2, 0, 5, 0, 2, 1, 0, 0};
        for (int what = 0; what < 9; what++) {
            Kit.due("asleep: thread(0, " + what + ")", x.thread(0, what), want[what]);
        }
        x.run(50);
        int[] dead = {7, 0, NONE, NONE, NONE, NONE, NONE, 0, 6};
        for (int what = 0; what < 9; what++) {
            Kit.due("dead: thread(0, " + what + ")", x.thread(0, what), dead[what]);
        }
        Kit.due("dead: thread(0, 9)", x.thread(0, 9), NONE);
    }

    // "i from 100 on: code of instruction i - 100, from 1000 on: its number. NONE without."
    private static void methodBounds() {
        String body = "x=x;".repeat(124);
        FrostHouse x = Kit.house("class A { static void f(int x) { " + body + " return; } static void main() { } } class B { static int b = 1; }", 1);
        Kit.due("250 instructions", x.method(0, 5), 250);
        Kit.due("the last but one's code", x.method(0, 348), 35);
        Kit.due("the last one's code", x.method(0, 349), 35);
        Kit.due("the 250th's number", x.method(0, 1249), 0);
        Kit.due("no 251st", x.method(0, 350), NONE);
        Kit.due("nothing at 999", x.method(0, 999), NONE);
        Kit.due("no 251st number", x.method(0, 1250), NONE);
        Kit.due("initialisers, too", x.method(3, 5), 3);
        Kit.due("its class", x.method(3, 0), 1);
        Kit.due("its number", x.method(3, 1000), 1);
        for (int m : new int[] {-1, 4, LEAST, MOST}) {
            Kit.due("method(" + m + ", 0)", x.method(m, 0), NONE);
            Kit.due("method(" + m + ", 100)", x.method(m, 100), NONE);
        }
        for (int what : new int[] {-1, 6, 99, LEAST, MOST}) {
            Kit.due("method(0, " + what + ")", x.method(0, what), NONE);
        }
        Kit.due("without a machine", new FrostHouse().method(0, 0), NONE);
    }

    // "1 its thread (NONE)"; "from 10 on: STATIC what - 10 of the text, whatever c ... NONE without."
    private static void klassBounds() {
        FrostHouse x = Kit.house("class A { static int a = 3; static text t; static void main() { B.r = new row[0]; A.a = -1; while (1) { } } } class B { static row r; int f; static A o; }", 1);
        x.run(30);
        for (int c : new int[] {0, 1, 2, -1, LEAST, MOST}) {
            Kit.due("an int, whatever c", x.klass(c, 10), -1);
            Kit.due("a null, whatever c", x.klass(c, 11), 0);
            Kit.due("a row, whatever c", x.klass(c, 12), 1);
            Kit.due("a null, whatever c", x.klass(c, 13), 0);
            Kit.due("none such, whatever c", x.klass(c, 14), NONE);
            Kit.due("none such, whatever c", x.klass(c, MOST), NONE);
        }
        for (int c : new int[] {2, -1, LEAST, MOST}) {
            for (int what = 0; what < 5; what++) {
                Kit.due("klass(" + c + ", " + what + ")", x.klass(c, what), NONE);
            }
        }
        for (int what : new int[] {5, 9, -1, LEAST}) {
            Kit.due("klass(0, " + what + ")", x.klass(0, what), NONE);
        }
        FrostHouse y = Kit.house("class Z { void a() { } } res class R { void b() { } void freeze() { } void thaw() { } static void main() { } }", 1);
        for (int what : new int[] {5, 6, 7, 8, 9}) {
            Kit.due("klass(1, " + what + ") of a res class", y.klass(1, what), NONE);
        }
        Kit.due("it is res", y.klass(1, 4), 1);
        Kit.due("the other is not", y.klass(0, 4), 0);
        Kit.due("a done class has no thread", x.klass(0, 1), NONE);
        Kit.due("fields", x.klass(1, 2), 1);
        Kit.due("statics", x.klass(1, 3), 2);
        Kit.due("without a machine", new FrostHouse().klass(0, 10), NONE);
    }

    /** The most methods and classes that there can be: the last ones are used as the first are. */
    private static void manyMethods() {
        StringBuilder text = new StringBuilder("class A { static void main() { print(B.b29(4)); print(I.s); } } class B { ");
        for (int i = 1; i < 30; i++) {
            text.append("static int b").append(i).append("(int x) { return x + ").append(i).append("; } ");
        }
        text.append("} class C { } class D { } class E { } class F { } class G { } class I { static int s = 8; }");
        FrostHouse x = Kit.house(text.toString(), 5);
        Kit.due("methods", x.about(13), 30);
        Kit.due("classes", x.about(14), 8);
        Kit.due("the last initialiser", x.method(37, 5), 3);
        Kit.due("its class", x.method(37, 0), 7);
        Kit.due("none behind", x.method(38, 0), NONE);
        x.run(30);
        x.freeze();
        x.take();
        Kit.due("restored", x.restore(0, 0), 0);
        Kit.load(x, text.toString(), 5);
        x.run(1000);
        Kit.due("they are used", Kit.out(x), "33|8|");
        // The most statics and fields.
        StringBuilder most = new StringBuilder();
        for (int c = 0; c < 8; c++) {
            most.append("class C").append(c).append(" { ");
            for (int i = 0; i < 8; i++) {
                most.append(i % 2 == 0 ? "static int s" : "static text s").append(i).append("; C").append(c).append(" f").append(i).append("; ");
            }
            most.append(c == 7 ? "static C7 make() { C7 o = new C7(); o.f7 = o; o.f0 = new C7(); s7 = \"z\"; s6 = 9; return o; } static void main() { C7 o = make(); while (1) { } } } " : "} ");
        }
        FrostHouse y = Kit.house(most.toString(), 5);
        y.run(60);
        Kit.due("the last static", y.klass(0, 10 + 63), 1);
        Kit.due("the last int", y.klass(0, 10 + 62), 9);
        Kit.due("none behind", y.klass(0, 10 + 64), NONE);
        Kit.due("statics", y.klass(7, 3), 8);
        Kit.due("fields", y.klass(7, 2), 8);
        Kit.due("objects", y.about(6), 3);
        y.freeze();
        y.take();
        Kit.due("restored", y.restore(0, 0), 0);
        Kit.due("the last static", y.klass(0, 10 + 63), 1);
    }
}
