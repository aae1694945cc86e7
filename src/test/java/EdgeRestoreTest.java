import java.util.Arrays;
import java.util.function.Consumer;

/** Terms 4, restore: the last number that can be and the first that can't, and each rule's sentences one by one. */
public final class EdgeRestoreTest {
    private static final int NONE = -1;

    public static void main(String[] args) {
        heads();
        lengths();
        sectionEnds();
        crcs();
        texts();
        section2();
        section3();
        objectCounts();
        section4();
        section5();
        section6();
        section7();
        frames();
        section8();
        inOrder();
        tooEarly();
        goOnBehind();
        rule1();
        rule2();
        rule2Points();
        rule3();
        rule4Lines();
        rule4Owners();
        rule4Held();
        rule5();
        rule6();
        rule7();
        firstRule();
        retold();
        nothingOfEarlierOnes();
        Kit.done();
    }

    /** Statics s 5, t "xy" (1), w {7, 8} (2), o (3) with f 3 and n null; main's x is o. */
    private static FrostHouse plain() {
        FrostHouse x = Kit.house("class A { int f; A n; static int s; static text t; static row w; static A o; static void main() { s = 5; t = \"xy\"; w = new row[2]; w[0] = 7; w[1] = 8; o = new A(); o.f = 3; A x = o; while (1) { } } }", 9);
        while (x.thread(0, 5) != 1) {
            x.run(1);
        }
        return x;
    }

    private static void due(String what, Consumer<Image> change, int kind, int place) {
        RestoreTest.refused(what, plain(), change, kind, place);
    }

    /** A byte, or more of them, of a section of the plain image; refused by kind 4 at the number's first byte. */
    private static void bad(int section, int number, int at, int... bytes) {
        due("section " + section + " at " + at + ": " + Arrays.toString(bytes), i -> i.change(section, at, bytes), 4, Image.of(plain()).place(section, number));
    }

    private static void fine(int section, int at, int... bytes) {
        due("section " + section + " at " + at + ": " + Arrays.toString(bytes), i -> i.change(section, at, bytes), 0, NONE);
    }

    private static void broken(int rule, int section, int at, int... bytes) {
        due("section " + section + " at " + at + ": " + Arrays.toString(bytes), i -> i.change(section, at, bytes), 5, rule);
    }

    private static byte[] whole() {
        FrostHouse x = plain();
        x.freeze();
        return Kit.image(x);
    }

    // "1 of 70, 82, 1, the length (its first byte) .. the first that is not as told; the tape's length, if it has less than 11 bytes and all that there are are right."
    private static void heads() {
        byte[] all = whole();
        for (int i = 0; i < 7; i++) {
            byte[] other = all.clone();
            other[i]++;
            RestoreTest.tape("byte " + i, other, 1, Math.min(i, 3));
            other[6]++;
            RestoreTest.tape("byte " + i + " and the length", other, 1, Math.min(i, 3));
        }
        for (int size = 0; size < 11; size++) {
            byte[] cut = {70, 82, 1, 0, 0, 0, (byte) size, 1, 0, 0, 0};
            RestoreTest.tape(size + " bytes, all right", Arrays.copyOf(cut, size), 1, size);
            if (size > 3) {
                cut[Math.min(6, size - 1)] = 99;
                RestoreTest.tape(size + " bytes, one of the length wrong", Arrays.copyOf(cut, size), 1, 3);
            }
        }
        byte[] eleven = {70, 82, 1, 0, 0, 0, 11, 1, 0, 0, 0};
        RestoreTest.tape("11 bytes: no section", eleven, 1, 7);
    }

    // "its length (its first byte, if that goes beyond where the CRC begins ..)".
    private static void lengths() {
        byte[] all = whole();
        Image image = new Image(all);
        for (int section = 1; section <= 8; section++) {
            int at = image.place(section, -4);
            int room = all.length - 4 - image.place(section, 0);
            for (int size : new int[] {room + 1, room + 2, all.length, 65536, 16777216, 2147483647, -2147483648, -1}) {
                byte[] other = all.clone();
                for (int i = 0; i < 4; i++) {
                    other[at + i] = (byte) (size >>> 24 - 8 * i);
                }
                RestoreTest.tape("section " + section + " has " + size, other, 1, at);
            }
            // As long as can be: then the next one has no bytes, or section 8 is longer than it was told.
            byte[] most = all.clone();
            for (int i = 0; i < 4; i++) {
                most[at + i] = (byte) (room >>> 24 - 8 * i);
            }
            if (section < 8) {
                RestoreTest.tape("section " + section + " has all", most, 1, all.length - 4);
            }
        }
    }

    // "a SECTION with less than five bytes ahead of the CRC: where it would begin"; "bytes behind SECTION 8".
    private static void sectionEnds() {
        byte[] head = {70, 82, 1, 0, 0, 0, 0, 1, 0, 0, 0, 0, 2, 0, 0, 0, 0, 0, 0, 0, 0};
        for (int left = 0; left < 5; left++) {
            byte[] cut = Arrays.copyOf(head, 12 + left + 4);
            cut[6] = (byte) cut.length;
            RestoreTest.tape(left + " bytes of section 2", cut, 1, 12);
        }
        byte[] five = Arrays.copyOf(head, 12 + 5 + 4);
        five[6] = (byte) five.length;
        RestoreTest.tape("five bytes of section 2", five, 1, 17);
        byte[] all = whole();
        Image image = new Image(all);
        for (int section = 1; section <= 8; section++) {
            byte[] other = all.clone();
            other[image.place(section, -5)]++;
            RestoreTest.tape("another number of section " + section, other, 1, image.place(section, -5));
        }
        byte[] longer = Arrays.copyOf(all, all.length + 1);
        longer[5] += longer[6] == -1 ? 1 : 0;
        longer[6]++;
        RestoreTest.tape("a byte behind section 8", longer, 1, all.length - 4);
    }

    // "2 the CRC (its first byte)."
    private static void crcs() {
        byte[] all = whole();
        for (int i : new int[] {12, all.length - 5, all.length - 4, all.length - 3, all.length - 2, all.length - 1}) {
            byte[] other = all.clone();
            other[i] ^= 128;
            RestoreTest.tape("byte " + i, other, 2, all.length - 4);
        }
        // The layout is asked ahead of it, the text behind it.
        byte[] both = all.clone();
        both[0]++;
        both[20]++;
        RestoreTest.tape("layout and CRC", both, 1, 0);
    }

    // "3 the TEXT has a FAULT (its first byte's place)": of any kind, ahead of all numbers.
    private static void texts() {
        for (String text : new String[] {"", "klass", "class A { int a; int a; }", "class A { static int a = null; }", "class A { void f(int a, int b, int c, int d, int e) { } static void main() { } }", "class A { }"}) {
            due("text " + text, i -> i.sections[1] = text.getBytes(), 3, 12);
            due("text " + text, i -> i.set(2).sections[1] = text.getBytes(), 3, 12);
        }
        due("2,000 bytes", i -> {
            int old = i.sections[1].length;
            i.sections[1] = Arrays.copyOf(i.sections[1], 2000);
            Arrays.fill(i.sections[1], old, 2000, (byte) ' ');
        }, 0, NONE);
        due("2,001 bytes", i -> {
            int old = i.sections[1].length;
            i.sections[1] = Arrays.copyOf(i.sections[1], 2001);
            Arrays.fill(i.sections[1], old, 2001, (byte) ' ');
        }, 3, 12);
    }

    // "QUANTUM 1 .. 50"; "(threads 7, where one is told ..)"; "how many STEPS it has done (0 .. QUANTUM)".
    private static void section2() {
        fine(2, 0, 255, 255, 255, 255);
        fine(2, 0, 0, 0, 0, 0);
        fine(2, 4, 1, 0, 1);
        fine(2, 4, 50, 0, 50);
        fine(2, 6, 0);
        fine(2, 6, 9);
        bad(2, 4, 4, 0);
        bad(2, 4, 4, 51);
        bad(2, 4, 4, 255);
        broken(7, 2, 5, 1);
        broken(7, 2, 5, 7);
        bad(2, 5, 5, 8);
        bad(2, 6, 6, 10);
        bad(2, 6, 6, 255);
        bad(2, 6, 4, 5, 0, 6);
        fine(2, 4, 5, 0, 5);
    }

    // "of each class its state, its thread (if BEGUN); then VALUES of all STATICS".
    private static void section3() {
        bad(3, 0, 0, 4);
        bad(3, 0, 0, 255);
        fine(3, 0, 0);
        fine(3, 0, 3);
        fine(3, 1, 255, 255, 255, 255);
        bad(3, 5, 5, 0, 0, 0, 4);
        bad(3, 5, 5, 1, 0, 0, 1);
        bad(3, 5, 5, 255, 255, 255, 255);
        bad(3, 9, 9, 0, 0, 1, 2);
        due("begun by 7", i -> i.splice(3, 0, 1, 1, 7), 5, 5);
        due("begun by 8", i -> i.splice(3, 0, 1, 1, 8), 4, Image.of(plain()).place(3, 1));
    }

    // "how many there are SECTION 4 says, in 3, too: 200 at most, 0 if it has fewer than two bytes".
    private static void objectCounts() {
        Image image = Image.of(plain());
        due("200 objects are told, there are three", i -> i.change(4, 0, 0, 200), 4, image.place(4, 37));
        bad(4, 0, 0, 0, 201);
        bad(4, 0, 0, 255, 255);
        bad(4, 0, 0, 1, 0);
        // What section 3 tells is held against what section 4 says, 200 at the most.
        due("a value 200 of 300 told", i -> i.change(3, 5, 0, 0, 0, 200).change(4, 0, 1, 44), 4, image.place(4, 0));
        due("a value 201 of 300 told", i -> i.change(3, 5, 0, 0, 0, 201).change(4, 0, 1, 44), 4, image.place(3, 5));
        due("a value 3 of two told", i -> i.change(4, 1, 2), 4, image.place(3, 13));
        due("section 4 is empty", i -> i.set(4), 4, image.place(3, 5));
        due("section 4 has one byte", i -> i.set(4, 0), 4, image.place(3, 5));
        due("and section 3 has nulls", i -> i.change(3, 5, 0, 0, 0, 0, 0, 0, 0, 0, 0, 0, 0, 0).set(4, 0), 4, image.place(4, 1));
        due("section 4 is empty, section 3 has nulls", i -> i.change(3, 5, 0, 0, 0, 0, 0, 0, 0, 0, 0, 0, 0, 0).set(4), 4, image.place(4, 0));
        due("no object at all", i -> i.change(3, 5, 0, 0, 0, 0, 0, 0, 0, 0, 0, 0, 0, 0).set(4, 0, 0).set(5, 0).change(7, 24, 0), 0, NONE);
    }

    // "its class, or 254 for a text, 255 for a row; its hash ..; VALUES of its FIELDS; or how many bytes, these; or how many ints, VALUES".
    private static void section4() {
        bad(4, 24, 24, 1);
        bad(4, 24, 24, 253);
        bad(4, 2, 2, 1);
        bad(4, 7, 7, 41);
        bad(4, 7, 7, 255);
        bad(4, 8, 8, 31);
        bad(4, 9, 9, 127);
        bad(4, 9, 9, 255);
        bad(4, 9, 9, 0);
        fine(4, 8, 32, 126);
        bad(4, 15, 15, 31);
        bad(4, 15, 15, 255);
        fine(4, 16, 255, 255, 255, 255);
        fine(4, 29, 128, 0, 0, 0);
        bad(4, 33, 33, 0, 0, 0, 4);
        bad(4, 33, 33, 0, 1, 0, 0);
        fine(4, 33, 0, 0, 0, 3);
        fine(4, 3, 0, 0, 0, 1);
        fine(4, 3, 127, 255, 255, 255);
        due("a text of 40 bytes", i -> {
            int[] text = new int[41];
            Arrays.fill(text, 'q');
            text[0] = 40;
            i.splice(4, 7, 3, text);
        }, 0, NONE);
        due("a text of 0 bytes", i -> i.splice(4, 7, 3, 0), 0, NONE);
        due("a row of 30 ints", i -> {
            int[] row = new int[121];
            row[0] = 30;
            i.splice(4, 15, 9, row);
        }, 0, NONE);
        due("a row of 0 ints", i -> i.splice(4, 15, 9, 0), 0, NONE);
    }

    // "how many are interned, their numbers": "numbers of OBJECTS 1 .. how many there are"; 200 at most.
    private static void section5() {
        bad(5, 1, 1, 0);
        bad(5, 1, 1, 4);
        bad(5, 1, 1, 255);
        bad(5, 0, 0, 201);
        due("200 are told", i -> i.change(5, 0, 200), 4, Image.of(plain()).place(5, 2));
        due("none", i -> i.set(5, 0), 0, NONE);
        due("two of them twice", i -> i.set(5, 2, 1, 1), 5, 6);
    }

    private static void bad6(int number, int... contents) {
        due("section 6: " + Arrays.toString(contents), i -> i.set(6, contents), 4, Image.of(plain()).place(6, number));
    }

    private static void broken6(int... contents) {
        due("section 6: " + Arrays.toString(contents), i -> i.set(6, contents), 5, 4);
    }

    // "its number, owner, how often (2 ..), how many in its queue, these, how many wait for it, these".
    private static void section6() {
        bad6(0, 201);
        bad6(1, 200);
        bad6(1, 1, 0, 0, 0, 0, 0, 0);
        bad6(1, 1, 4, 0, 0, 0, 0, 0);
        bad6(2, 1, 1, 8, 0, 0, 0, 0);
        bad6(2, 1, 1, 254, 0, 0, 0, 0);
        bad6(5, 1, 1, 0, 0, 1, 9, 0);
        bad6(6, 1, 1, 0, 0, 1, 1, 8, 0);
        bad6(6, 1, 1, 0, 0, 1, 0, 9);
        bad6(7, 1, 1, 0, 0, 1, 0, 1, 8);
        broken6(1, 1, 0, 0, 0, 0, 0);
        broken6(1, 1, 7, 0, 1, 0, 0);
        broken6(1, 1, 0, 255, 255, 0, 0);
        broken6(1, 1, 255, 0, 0, 1, 0, 0);
        broken6(1, 1, 255, 0, 0, 8, 0, 0, 0, 0, 0, 0, 0, 0, 0);
        broken6(1, 1, 255, 0, 0, 0, 8, 0, 0, 0, 0, 0, 0, 0, 0);
        broken6(1, 1, 255, 0, 0, 1, 7, 0);
        broken6(1, 1, 255, 0, 1, 0, 0);
        broken6(1, 1, 255, 0, 0, 0, 1, 7);
        broken6(2, 1, 255, 0, 0, 0, 0, 1, 255, 0, 0, 0, 0);
    }

    // "how many threads .. its state ..; 1 if INTERRUPTED, else 0; by what ..; how long ..; the OBJECT ..; how often ..; in 1 behind a wait ..; the thread it joins ..; the class it waits for ..; how many FRAMES".
    private static void section7() {
        bad(7, 0, 0, 0);
        bad(7, 0, 0, 9);
        bad(7, 0, 0, 255);
        due("eight threads are told", i -> i.change(7, 0, 8), 4, Image.of(plain()).place(7, 25));
        bad(7, 1, 1, 9);
        bad(7, 1, 1, 255);
        bad(7, 2, 2, 2);
        bad(7, 2, 2, 255);
        fine(7, 2, 1);
        broken(7, 7, 3, 128, 0, 0, 0);
        broken(7, 7, 7, 127, 255, 255, 255);
        bad(7, 7, 7, 128, 0, 0, 0);
        bad(7, 7, 7, 255, 255, 255, 255);
        broken(7, 7, 11, 3);
        bad(7, 11, 11, 4);
        bad(7, 11, 11, 255);
        broken(7, 7, 12, 255, 255);
        broken(7, 7, 14, 3);
        bad(7, 14, 14, 4);
        broken(7, 7, 15, 7);
        bad(7, 15, 15, 8);
        bad(7, 15, 15, 254);
        broken(7, 7, 16, 0);
        bad(7, 16, 16, 1);
        bad(7, 16, 16, 254);
        bad(7, 17, 17, 31);
        bad(7, 17, 17, 255);
    }

    // "METHOD, two bytes instruction, VALUES of variables in sight, of the stack, numbers of what is HELD".
    private static void frames() {
        FrostHouse x = plain();
        int length = x.method(0, 5);
        bad(7, 18, 18, 2);
        bad(7, 18, 18, 255);
        bad(7, 19, 19, 0, length);
        bad(7, 19, 19, 1, 0);
        bad(7, 19, 19, 255, 255);
        bad(7, 21, 21, 0, 0, 0, 4);
        bad(7, 21, 21, 255, 255, 255, 255);
        fine(7, 21, 0, 0, 0, 0);
        due("its last instruction, where x is not in sight", i -> i.change(7, 19, 0, length - 1).splice(7, 21, 4), 0, NONE);
        due("the initialiser's number", i -> i.change(7, 18, 1, 0, 0).splice(7, 21, 4), 5, 2);
        due("30 frames are told", i -> i.change(7, 17, 30), 4, Image.of(plain()).place(7, 25));
        due("no frames are told", i -> i.change(7, 17, 0).splice(7, 18, 7), 5, 2);
        FrostHouse y = RestoreTest.threads();
        RestoreTest.number("a held 0", y, 7, 25, 0);
        RestoreTest.number("a held 4", y, 7, 25, 4);
        RestoreTest.number("a held 255", y, 7, 27, 255);
    }

    private static void bad8(int number, int... contents) {
        due("section 8: " + Arrays.toString(contents), i -> i.set(8, contents), 4, Image.of(plain()).place(8, number));
    }

    // "the checkpoint's thread, its FRAME there ..; 0 none, 1 .., 2 .., 3 ..; how many were called since; LIST ..; registered ones ..; how many failures, these (4 each)".
    private static void section8() {
        bad8(0, 8, 0, 0, 0, 0, 0, 0);
        bad8(0, 254, 0, 0, 0, 0, 0, 0);
        bad8(1, 255, 30, 0, 0, 0, 0, 0);
        bad8(1, 255, 255, 0, 0, 0, 0, 0);
        bad8(2, 255, 0, 4, 0, 0, 0, 0);
        bad8(4, 255, 0, 0, 0, 13, 0, 0);
        bad8(5, 255, 0, 0, 0, 1, 0, 0, 0);
        bad8(5, 255, 0, 0, 0, 1, 4, 0, 0);
        bad8(5, 255, 0, 0, 0, 0, 13, 0);
        bad8(6, 255, 0, 0, 0, 0, 1, 0, 0);
        bad8(6, 255, 0, 0, 0, 0, 1, 4, 0);
        bad8(6, 255, 0, 0, 0, 0, 0, 21);
        bad8(7, 255, 0, 0, 0, 0, 0, 20);
        bad8(5, 255, 0, 0, 0, 12);
        due("called is asked by 5 alone", i -> i.set(8, 255, 0, 0, 255, 0, 0, 0), 5, 6);
        due("a frame 29 likewise", i -> i.set(8, 255, 29, 0, 0, 0, 0, 0), 5, 6);
        due("a thread 7 likewise", i -> i.set(8, 7, 0, 1, 0, 0, 0, 0), 5, 6);
        due("a phase 3 likewise", i -> i.set(8, 255, 0, 3, 0, 0, 0, 0), 5, 6);
        due("failures of an earlier one", i -> i.set(8, 255, 0, 0, 0, 0, 0, 2, 255, 255, 255, 255, 128, 0, 0, 0), 0, NONE);
        int[] twenty = new int[7 + 80];
        twenty[0] = 255;
        twenty[6] = 20;
        due("twenty failures", i -> i.set(8, twenty), 0, NONE);
    }

    // "(its first byte; in order)": of two that can't be the first one is told.
    private static void inOrder() {
        Image image = Image.of(plain());
        due("2 and 3", i -> i.change(2, 6, 99).change(3, 0, 9), 4, image.place(2, 6));
        due("3 and 4", i -> i.change(3, 0, 9).change(4, 7, 99), 4, image.place(3, 0));
        due("4 and 5", i -> i.change(4, 9, 9).change(5, 1, 9), 4, image.place(4, 9));
        due("5 and 6", i -> i.change(5, 1, 9).change(6, 0, 255), 4, image.place(5, 1));
        due("6 and 7", i -> i.change(6, 0, 255).change(7, 0, 255), 4, image.place(6, 0));
        due("7 and 8", i -> i.change(7, 20, 255).change(8, 0, 9), 4, image.place(7, 19));
        due("two of one section", i -> i.change(2, 4, 51).change(2, 5, 9), 4, image.place(2, 4));
        due("a number ahead of what ends too early", i -> i.change(2, 5, 9).splice(2, 6, 1), 4, image.place(2, 5));
        due("what goes on behind ahead of another section's number", i -> i.splice(2, 7, 0, 0).change(3, 0, 9), 4, image.place(2, 7));
        // Kind 4 is ahead of kind 5, wherever it is.
        due("a type and a number", i -> i.change(3, 8, 3).change(8, 0, 9), 4, image.place(8, 0));
    }

    // "contents that end too early .. (there)".
    private static void tooEarly() {
        Image image = Image.of(plain());
        for (int section = 2; section <= 8; section++) {
            int s = section;
            for (int size = 0; size < image.sections[s].length; size++) {
                int cut = size;
                // With fewer than two bytes of section 4 there are no objects for section 3.
                int place = s == 4 && cut < 2 ? image.place(3, 5) : image.place(s, cut);
                due("section " + s + " has " + cut + " bytes", i -> i.splice(s, cut, i.sections[s].length - cut), 4, place);
            }
        }
    }

    // ".. or go on behind (there)".
    private static void goOnBehind() {
        Image image = Image.of(plain());
        for (int section = 2; section <= 8; section++) {
            int s = section;
            int size = image.sections[s].length;
            due("a byte behind section " + s, i -> i.splice(s, size, 0, 0), 4, image.place(s, size));
            due("four bytes behind section " + s, i -> i.splice(s, size, 0, 255, 1, 2, 3), 4, image.place(s, size));
        }
    }

    // "1 each VALUE that isn't an int's is 0 or an OBJECT of the TYPE there (of the word null 0); interned ones are texts, those of LIST and registered ones of res classes."
    private static void rule1() {
        // Static t, w, o at 5, 9, 13: the last byte of each is its object.
        for (int[] pair : new int[][] {{8, 2}, {8, 3}, {12, 1}, {12, 3}, {16, 1}, {16, 2}}) {
            broken(1, 3, pair[0], pair[1]);
        }
        broken(1, 4, 36, 1);
        broken(1, 4, 36, 2);
        broken(1, 7, 24, 1);
        broken(1, 7, 24, 2);
        broken(1, 5, 1, 2);
        broken(1, 5, 1, 3);
        fine(3, 4, 99);
        due("registered: no res class", i -> i.set(8, 255, 0, 0, 0, 0, 1, 3, 0), 5, 1);
        due("registered: a text", i -> i.set(8, 255, 0, 0, 0, 0, 1, 1, 0), 5, 1);
        due("listed: a row", i -> i.set(8, 255, 0, 0, 0, 1, 2, 0, 0), 5, 1);
        due("listed: no res class", i -> i.set(8, 255, 0, 0, 0, 1, 3, 0, 0), 5, 1);
        // Another class's object; of the stack, with the word null on it.
        FrostHouse x = Kit.house("class B { B b; } class A { static A a = new A(); static B b = new B(); static void f(A x, text t, int i) { } static void main() { a = a; f(a, null, sleep(99)); } }", 9);
        while (x.thread(0, 0) != 4) {
            x.run(1);
        }
        Image image = Image.of(x);
        int stack = image.sections[7].length - 8;
        Kit.due("on the stack a and null", Image.number(image.sections[7], stack, 4) * 10 + Image.number(image.sections[7], stack + 4, 4), 10);
        RestoreTest.refused("a static of another class", x, i -> i.change(3, i.sections[3].length - 1, 1), 5, 1);
        RestoreTest.refused("on the stack another class's", x, i -> i.change(7, stack + 3, 2), 5, 1);
        RestoreTest.refused("null on the stack", x, i -> i.change(7, stack + 3, 0), 0, NONE);
        RestoreTest.refused("an object as the word null", x, i -> i.change(7, stack + 7, 1), 5, 1);
        RestoreTest.refused("a field of another class", x, i -> i.change(4, 15, 1), 5, 1);
        RestoreTest.refused("a field of its own class", x, i -> i.change(4, 15, 2), 0, NONE);
    }

    // "2 a thread that is not DEAD has FRAMES, one that is has none; its first one (0) is of a METHOD without an INITIALISER's number; one above another: it is a CALL's of its METHOD, or its INITIALISER's class is WANTED there".
    private static void rule2() {
        due("ready without frames", i -> i.change(7, 17, 0).splice(7, 18, 7), 5, 2);
        due("dead with frames", i -> i.change(7, 1, 7), 5, 2);
        due("dead without frames", i -> i.change(7, 1, 7).change(7, 17, 0).splice(7, 18, 7), 0, NONE);
        FrostHouse x = Kit.house("class B { static int x = sleep(50); } class C { static int y; } class A { static void g() { } static void f() { print(C.y); sleep(50); print(B.x); } static void main() { A.g(); f(); f(); } }", 9);
        while (x.thread(0, 0) != 4) {
            x.run(1);
        }
        Image image = Image.of(x);
        int top = 18;
        // f sleeps above main's first call of f: instruction 1 of main; 0 is a call of g, 2 another of f.
        Kit.due("two frames", image.sections[7][17], 2);
        RestoreTest.refused("above the other call of f", x, i -> i.change(7, i.sections[7].length - 1, 2), 0, NONE);
        RestoreTest.refused("above a call of g", x, i -> i.change(7, i.sections[7].length - 1, 0), 5, 2);
        RestoreTest.refused("above the return", x, i -> i.change(7, i.sections[7].length - 1, 3), 5, 2);
        RestoreTest.refused("two of f above one another", x, i -> i.change(7, top + 1, 0, 0).splice(7, top, 0, image.sections[7][top], 0, 0).change(7, 17, 3).change(7, 1, 0).change(7, 10, 0), 5, 2);
        while (x.klass(0, 0) != 1) {
            x.run(1);
        }
        while (x.thread(0, 0) != 4) {
            x.run(1);
        }
        Image begun = Image.of(x);
        Kit.due("three frames", begun.sections[7][17], 3);
        int below = top + 3;
        int wants = begun.sections[7][below + 2];
        RestoreTest.refused("an initialiser above what wants it", x, i -> i.change(7, below + 2, wants), 0, NONE);
        RestoreTest.refused("above what wants another class", x, i -> i.change(7, below + 2, 0), 5, 2);
        RestoreTest.refused("above what wants none", x, i -> i.change(7, below + 2, 3), 5, 2);
        RestoreTest.refused("another class's initialiser", x, i -> i.change(7, top, begun.sections[7][top] + 1, 0, 0).change(7, 1, 0).change(7, 10, 0), 5, 2);
    }

    // "or it is freeze (1) or thaw (2, 3) of the checkpoint's, this thread's, latest called one, which is its this, above checkpoint()".
    private static void rule2Points() {
        FrostHouse x = RestoreTest.point(2);
        Kit.due("the last one's freeze", Arrays.toString(Image.of(x).sections[8]), "[0, 0, 1, 1, 2, 1, 2, 2, 1, 2, 0]");
        // Method 0 is freeze, 1 thaw; the this of the first frame written stands at 21 .. 24.
        Kit.due("freeze of 2", Image.of(x).sections[7][18] * 10 + Image.of(x).sections[7][24], 2);
        RestoreTest.refused("phase 2", x, i -> i.change(8, 2, 2), 5, 2);
        RestoreTest.refused("phase 3", x, i -> i.change(8, 2, 3), 5, 2);
        RestoreTest.refused("none called", x, i -> i.change(8, 3, 0), 5, 2);
        RestoreTest.refused("two called", x, i -> i.change(8, 3, 2), 5, 2);
        RestoreTest.refused("two called, of the first one", x, i -> i.change(8, 3, 2).change(7, 24, 1), 0, NONE);
        RestoreTest.refused("one called, of the first one", x, i -> i.change(7, 24, 1), 5, 2);
        RestoreTest.refused("of null", x, i -> i.change(7, 24, 0), 5, 2);
        RestoreTest.refused("a thaw", x, i -> i.change(7, 18, 1), 5, 2);
        RestoreTest.refused("a thaw in phase 2 of the first one", x, i -> i.change(7, 18, 1).change(7, 24, 1).change(8, 2, 2), 0, NONE);
        RestoreTest.refused("a thaw in phase 3 of the first one", x, i -> i.change(7, 18, 1).change(7, 24, 1).change(8, 2, 3), 0, NONE);
        RestoreTest.refused("a thaw in phase 3 of the second one", x, i -> i.change(7, 18, 1).change(8, 2, 3), 5, 2);
        RestoreTest.refused("a thaw in phase 3 of the second one, two called", x, i -> i.change(7, 18, 1).change(8, 2, 3, 2), 0, NONE);
        RestoreTest.refused("three called", x, i -> i.change(8, 3, 3), 5, 2);
        RestoreTest.refused("of no thread", x, i -> i.set(8, 255, 0, 0, 0, 0, 2, 1, 2, 0), 5, 2);
        RestoreTest.refused("of another thread", x, i -> i.change(8, 0, 1), 5, 2);
        int below = Image.of(x).sections[7].length - 1;
        RestoreTest.refused("above another checkpoint()", x, i -> i.change(7, below, i.sections[7][below] + 2), 0, NONE);
        RestoreTest.refused("above what is no checkpoint()", x, i -> i.change(7, below, 0), 5, 2);
    }

    /** A house whose thread 0 stands in main, ready, at the first instruction with that code and number. */
    private static FrostHouse standing(String body, int code, int number) {
        FrostHouse x = Kit.house("class A { static A l = new A(); static int z; static void main() { l = l; " + body + " } } class B { static int x; }", 9);
        for (int i = 0; i < 60; i++) {
            int pc = x.thread(0, 3);
            if (x.thread(0, 2) == 0 && x.method(0, 100 + pc) == code && x.method(0, 1000 + pc) == number && x.thread(0, 0) == 0) {
                return x;
            }
            x.run(1);
        }
        Kit.due("stands at " + code + " of " + body, 0, 1);
        return x;
    }

    // "3 state and instruction of the first FRAME: 1 ENTER, or a wait; 2, 3 wait of one and of two ARGS (2 of two, too); 4 sleep; 5 join, of a thread that there is, not DEAD; 6 what WANTS the class; 8 wait, sleep, join."
    private static void rule3() {
        stateAt("sync (l) { }", 38, 0, 1, "1");
        stateAt("sync (l) { wait(l); }", 41, 2, 1, "128");
        stateAt("sync (l) { wait(l, 5); }", 41, 3, 2, "1238");
        stateAt("sleep(5);", 41, 6, 1, "48");
        stateAt("join(0);", 41, 9, 1, "58");
        stateAt("B.x = 1;", 8, 2, 0, "6");
        stateAt("print(B.x);", 7, 2, 0, "6");
        stateAt("B b = new B();", 11, 1, 0, "6");
        stateAt("sync (l) { notify(l); }", 41, 4, 1, "");
        stateAt("sync (l) { all(l); }", 41, 5, 1, "");
        stateAt("print(5);", 41, 0, 1, "");
        stateAt("interrupt(0);", 41, 7, 1, "");
        stateAt("time();", 41, 11, 0, "");
        stateAt("checkpoint();", 41, 15, 0, "");
        stateAt("sync (l) { }", 39, 0, 0, "");
        stateAt("return;", 35, 0, 0, "");
        FrostHouse x = standing("join(0);", 41, 9);
        Image image = Image.of(x);
        int stack = image.sections[7].length - 4;
        for (int other : new int[] {1, 7, 255}) {
            RestoreTest.refused("joins " + other, x, i -> i.splice(7, stack, 4).change(7, 1, 5).change(7, 15, other), 5, 3);
        }
        FrostHouse y = standing("B.x = 1;", 8, 2);
        for (int other : new int[] {0, 255}) {
            RestoreTest.refused("waits for class " + other, y, i -> i.change(7, 1, 6).change(7, 16, other), 5, 3);
        }
    }

    private static void stateAt(String body, int code, int number, int taken, String allowed) {
        FrostHouse x = standing(body, code, number);
        for (int state = 0; state <= 8; state++) {
            int s = state;
            boolean goes = code == 41 && (s >= 1 && s <= 5 || s == 8) || code == 38 && s == 1;
            Image image = Image.of(x);
            // The last frame written is the only one; behind its stack stand as many as it holds.
            int held = x.thread(0, 6);
            int gone = goes ? 4 * taken : 0;
            image.splice(7, image.sections[7].length - held - gone, gone);
            image.change(7, 1, s);
            if (s == 5) {
                image.change(7, 15, 0);
            }
            if (s == 6) {
                image.change(7, 16, 1);
            }
            FrostHouse y = new FrostHouse();
            Kit.tape(y, image.build());
            int kind = y.restore(0, 0);
            boolean isRule3 = kind == 5 && y.fault(3) == 3;
            String what = body + " at " + code + ":" + number + " in state " + s;
            if (s == 0) {
                Kit.due(what, kind, 0);
            } else if (s == 7) {
                Kit.due(what, kind * 10 + y.fault(3), 52);
            } else {
                Kit.due(what, isRule3, allowed.indexOf('0' + s) < 0);
                Kit.due(what + ": rules 1 and 2 hold", kind == 0 || kind == 5 && y.fault(3) >= 3, true);
            }
        }
    }

    // "4 what waits, is BLOCKED: in states 1, 2, 3 a thread is just once in its OBJECT's queue, or among those that wait, no other is".
    private static void rule4Lines() {
        FrostHouse x = RestoreTest.threads();
        Kit.due("section 6", Arrays.toString(Image.of(x).sections[6]), "[2, 1, 0, 0, 2, 2, 1, 2, 0, 2, 0, 0, 1, 0, 0]");
        RestoreTest.refused("the other way round", x, i -> i.change(6, 6, 2, 1), 0, NONE);
        RestoreTest.refused("not there", x, i -> i.splice(6, 5, 3, 1, 2), 5, 4);
        RestoreTest.refused("twice", x, i -> i.splice(6, 5, 3, 3, 1, 2, 1), 5, 4);
        RestoreTest.refused("a sleeper", x, i -> i.splice(6, 5, 3, 3, 1, 2, 0), 5, 4);
        RestoreTest.refused("one that joins", x, i -> i.splice(6, 5, 3, 3, 1, 2, 3), 5, 4);
        RestoreTest.refused("none such", x, i -> i.splice(6, 5, 3, 3, 1, 2, 4), 5, 4);
        RestoreTest.refused("of another object", x, i -> i.set(6, 2, 1, 0, 0, 2, 1, 1, 0, 2, 0, 0, 1, 1, 2, 0), 5, 4);
        RestoreTest.refused("of two objects", x, i -> i.set(6, 2, 1, 0, 0, 2, 2, 1, 2, 0, 2, 0, 0, 1, 1, 2, 0), 5, 4);
        RestoreTest.refused("in the queue, and among those that wait", x, i -> i.splice(6, 8, 1, 1, 1), 5, 4);
        RestoreTest.refused("blocked, but among those that wait", x, i -> i.splice(6, 5, 4, 1, 1, 1, 2), 5, 4);
        FrostHouse w = RestoreTest.waits(2);
        Kit.due("section 6", Arrays.toString(Image.of(w).sections[6]), "[2, 1, -1, 0, 0, 0, 2, 1, 2, 2, 0, 0, 1, 0, 0]");
        RestoreTest.refused("the other way round", w, i -> i.change(6, 7, 2, 1), 0, NONE);
        RestoreTest.refused("not there", w, i -> i.splice(6, 6, 3, 1, 1), 5, 4);
        RestoreTest.refused("twice", w, i -> i.splice(6, 6, 3, 3, 1, 2, 2), 5, 4);
        RestoreTest.refused("for another object", w, i -> i.set(6, 2, 1, 255, 0, 0, 0, 1, 1, 2, 0, 0, 1, 0, 1, 2), 5, 4);
        RestoreTest.refused("waits, but in a queue", w, i -> i.set(6, 2, 1, 255, 0, 0, 1, 1, 1, 2, 2, 0, 0, 1, 0, 0), 5, 4);
    }

    // "an owner is not DEAD, has it HELD as often as told, at least once; one without an owner is told 0 times and has no queue; no OBJECT has two; who stands in its queue or waits for it is not its owner".
    private static void rule4Owners() {
        FrostHouse x = RestoreTest.threads();
        for (int owner : new int[] {1, 2, 3, 4, 7, 255}) {
            RestoreTest.refused("owner " + owner, x, i -> i.change(6, 10, owner), 5, 4);
        }
        for (int often : new int[] {0, 1, 3, 258}) {
            RestoreTest.refused("often " + often, x, i -> i.change(6, 3, often >> 8, often), 5, 4);
        }
        RestoreTest.refused("no owner, none in its queue, but held", x, i -> i.change(6, 10, 255, 0, 0), 5, 4);
        RestoreTest.refused("told twice", x, i -> i.set(6, 3, 1, 0, 0, 2, 2, 1, 2, 0, 2, 0, 0, 1, 0, 0, 2, 0, 0, 1, 0, 0), 5, 4);
        RestoreTest.refused("told not at all", x, i -> i.set(6, 1, 1, 0, 0, 2, 2, 1, 2, 0), 5, 4);
        RestoreTest.refused("of what none holds", x, i -> i.set(6, 3, 1, 0, 0, 2, 2, 1, 2, 0, 2, 0, 0, 1, 0, 0, 3, 0, 0, 1, 0, 0), 5, 4);
        FrostHouse s = standing("sync (l) { sync (l) { } }", 38, 0);
        s.run(2);
        Kit.due("it stands at the second enter, and holds l", s.method(0, 100 + s.thread(0, 3)) * 10 + s.thread(0, 6), 381);
        int stack = Image.of(s).sections[7].length - 5;
        RestoreTest.refused("as it is", s, i -> i.change(7, 1, 0), 0, NONE);
        RestoreTest.refused("an owner in its own queue", s, i -> i.splice(7, stack, 4).change(7, 1, 1).change(7, 11, 1).set(6, 1, 1, 0, 0, 1, 1, 0, 0), 5, 4);
        RestoreTest.refused("an owner without a monitor", s, i -> i.set(6, 0), 5, 4);
        FrostHouse d = Kit.house("class A { static A l = new A(); static void f() { } static void main() { l = l; spawn f(); sleep(20); while (1) { } } }", 50);
        d.run(40);
        Kit.due("one is dead", d.thread(1, 0), 7);
        RestoreTest.refused("a dead owner", d, i -> i.set(6, 1, 1, 1, 0, 0, 0, 0), 5, 4);
        RestoreTest.refused("a dead owner, once", d, i -> i.set(6, 1, 1, 1, 0, 1, 0, 0), 5, 4);
        FrostHouse w = RestoreTest.waits(2);
        RestoreTest.refused("no owner, told once", w, i -> i.change(6, 4, 1), 5, 4);
        RestoreTest.refused("its waiter is its owner", w, i -> i.change(6, 2, 1, 0, 2), 5, 4);
    }

    // "who waits (or is behind a wait) has it HELD as often as it had it (0, too); whoever else has something HELD is its owner".
    private static void rule4Held() {
        FrostHouse w = RestoreTest.waits(2);
        int first = 1 + 17 + 4;
        Kit.due("thread 1 waits", Image.of(w).sections[7][first], 2);
        Kit.due("it had it twice", Image.of(w).sections[7][first + 12], 2);
        for (int had : new int[] {0, 1, 3}) {
            RestoreTest.refused("had it " + had + " times", w, i -> i.change(7, first + 12, had), 5, 4);
        }
        int held = first + 17 + 3 + 4;
        Kit.due("held", Arrays.toString(Arrays.copyOfRange(Image.of(w).sections[7], held, held + 2)), "[1, 1]");
        RestoreTest.refused("holds another's", w, i -> i.change(7, held + 1, 2).change(7, first + 12, 1), 5, 4);
        RestoreTest.refused("holds only another's, had it 0 times", w, i -> i.change(7, held, 2, 2).change(7, first + 12, 0), 5, 4);
        FrostHouse b = RestoreTest.waits(1);
        int blocked = 1 + 17 + 9;
        Kit.due("thread 1 is blocked behind its wait", Image.of(b).sections[7][blocked], 1);
        for (int had : new int[] {0, 1, 3}) {
            RestoreTest.refused("behind a wait, had it " + had + " times", b, i -> i.change(7, blocked + 12, had), 5, 4);
        }
        FrostHouse x = RestoreTest.threads();
        int me = 18 + 3 + 4;
        Kit.due("held by the sleeper", Arrays.toString(Arrays.copyOfRange(Image.of(x).sections[7], me, me + 3)), "[1, 2, 1]");
        RestoreTest.refused("holds what has no monitor", x, i -> i.change(7, me, 3), 5, 4);
        RestoreTest.refused("holds one more often, another less", x, i -> i.change(7, me, 2), 5, 4);
        RestoreTest.refused("in another order", x, i -> i.change(7, me, 2, 1, 1), 0, NONE);
    }

    // "5 a class is BEGUN just if there is one FRAME of its INITIALISER, in its thread; who waits for a class waits for one BEGUN by another one."
    private static void rule5() {
        FrostHouse c = RestoreTest.classes();
        Kit.due("B is begun by 1", Arrays.toString(Image.of(c).sections[3]), "[1, 1, 2, 0, 0, 0, 0, 0, 0, 0, 0]");
        for (int state : new int[] {0, 2, 3}) {
            RestoreTest.refused("B is " + state, c, i -> i.splice(3, 0, 2, state), 5, 5);
        }
        for (int thread : new int[] {0, 2, 7}) {
            RestoreTest.refused("begun by " + thread, c, i -> i.change(3, 1, thread), 5, 5);
        }
        RestoreTest.refused("A is begun, too", c, i -> i.splice(3, 2, 1, 1, 0), 5, 5);
        RestoreTest.refused("A is new", c, i -> i.change(3, 2, 0), 0, NONE);
        RestoreTest.refused("A has failed", c, i -> i.change(3, 2, 3), 0, NONE);
        // Who waits for a class that is not begun: the sleeper of its initialiser goes, and the class is done.
        FrostHouse x = standing("B.x = 1;", 8, 2);
        for (int state : new int[] {0, 2, 3}) {
            RestoreTest.refused("waits for one that is " + state, x, i -> i.change(7, 1, 6).change(7, 16, 1).change(3, 1, state), 5, 5);
        }
        RestoreTest.refused("waits for one that is begun by itself", x, i -> i.change(7, 1, 6).change(7, 16, 1).splice(3, 1, 1, 1, 0), 5, 5);
    }

    // "6 where none goes on just that is told of it .., else a phase above 0; the checkpoint's thread is not DEAD, and has a FRAME at checkpoint(); how many were called is not above LIST's; LIST, registered ones and interned ones are each once, no two interned ones alike."
    private static void rule6() {
        for (int[] told : new int[][] {{255, 1, 0, 0, 0, 0, 0}, {255, 0, 1, 0, 0, 0, 0}, {255, 0, 0, 1, 0, 0, 0}, {0, 0, 0, 0, 0, 0, 0}, {0, 0, 1, 0, 0, 0, 0}, {1, 0, 1, 0, 0, 0, 0}}) {
            due("section 8: " + Arrays.toString(told), i -> i.set(8, told), 5, 6);
        }
        FrostHouse p = RestoreTest.point(1);
        Kit.due("section 8", Arrays.toString(Image.of(p).sections[8]), "[0, 0, 1, 0, 2, 1, 2, 2, 1, 2, 0]");
        for (int called : new int[] {0, 1, 2}) {
            for (int phase : new int[] {1, 2, 3}) {
                RestoreTest.refused("phase " + phase + ", called " + called, p, i -> i.change(8, 2, phase, called), 0, NONE);
            }
        }
        for (int called : new int[] {3, 12, 255}) {
            RestoreTest.refused("called " + called, p, i -> i.change(8, 3, called), 5, 6);
        }
        RestoreTest.refused("a phase 0", p, i -> i.change(8, 2, 0), 5, 6);
        RestoreTest.refused("a list of none", p, i -> i.change(8, 0, 255, 0, 0, 0), 5, 6);
        RestoreTest.refused("a frame that there is not", p, i -> i.change(8, 1, 1), 5, 6);
        RestoreTest.refused("a thread that there is not", p, i -> i.change(8, 0, 1), 5, 6);
        RestoreTest.refused("a list in another order", p, i -> i.change(8, 5, 2, 1), 0, NONE);
        RestoreTest.refused("a list of one", p, i -> i.splice(8, 4, 3, 1, 2), 0, NONE);
        RestoreTest.refused("listed twice", p, i -> i.change(8, 5, 2, 2), 5, 6);
        RestoreTest.refused("registered twice", p, i -> i.change(8, 8, 1, 1), 5, 6);
        RestoreTest.refused("interned twice", p, i -> i.set(5, 2, 3, 3), 5, 6);
        RestoreTest.refused("none registered", p, i -> i.splice(8, 7, 3, 0), 0, NONE);
        // The checkpoint's frame is not at checkpoint(), that of another one is.
        int pc = Image.of(p).sections[7].length - 1;
        RestoreTest.refused("a frame that is not there", p, i -> i.change(7, pc, 0), 5, 6);
        // A frame that there is not, though an earlier image had one there at checkpoint().
        FrostHouse deep = Kit.house("class A { static void f() { checkpoint(); } static void main() { f(); checkpoint(); } }", 50);
        while (deep.about(11) != 0) {
            deep.run(1);
        }
        Image two = Image.of(deep);
        Kit.due("its frame 1", two.sections[8][1], 1);
        deep.run(1);
        deep.thaw();
        deep.run(2);
        while (deep.about(11) != 0) {
            deep.run(1);
        }
        Image flat = Image.of(deep);
        Kit.due("its frame 0", flat.sections[8][1], 0);
        Kit.tape(deep, two.build());
        Kit.due("restored", deep.restore(0, 0) + deep.restore(0, 0), 0);
        Kit.tape(deep, flat.change(8, 1, 1).build());
        Kit.due("refused", deep.restore(0, 0) * 10 + deep.fault(3), 56);
        // A dead thread.
        FrostHouse d = Kit.house("class A { static void f() { } static void main() { spawn f(); sleep(30); while (1) { } } }", 50);
        d.run(40);
        RestoreTest.refused("a dead thread", d, i -> i.set(8, 1, 0, 1, 0, 0, 0, 0), 5, 6);
        FrostHouse t = Kit.house("class A { static text a = \"x\"; static text b = \"y\"; static text c = \"yy\"; static void main() { A.a = a; while (1) { } } }", 1);
        t.run(30);
        Kit.due("section 5", Arrays.toString(Image.of(t).sections[5]), "[3, 1, 2, 3]");
        RestoreTest.refused("alike", t, i -> i.change(4, 15, 'x'), 5, 6);
        RestoreTest.refused("not quite", t, i -> i.change(4, 15, 'X'), 0, NONE);
        RestoreTest.refused("alike, but one is not interned", t, i -> i.change(4, 15, 'x').set(5, 2, 1, 3), 0, NONE);
    }

    // "7 the thread at hand is one that there is; a hash that is not 0 is odd and above 0; what section 7 tells of some states alone is 0 (255) in others; one that is DEAD is not INTERRUPTED; in 5 there is a thread, in 6 a class; ..".
    private static void rule7() {
        broken(7, 2, 5, 1);
        for (int[] hash : new int[][] {{0, 0, 0, 2}, {128, 0, 0, 0}, {128, 0, 0, 1}, {255, 255, 255, 255}, {127, 255, 255, 254}}) {
            broken(7, 4, 3, hash);
            broken(7, 4, 25, hash);
        }
        fine(4, 3, 0, 0, 0, 1);
        fine(4, 25, 127, 255, 255, 255);
        broken(7, 7, 3, 0, 0, 0, 1);
        broken(7, 7, 3, 255, 255, 255, 255);
        broken(7, 7, 7, 0, 0, 0, 1);
        broken(7, 7, 11, 1);
        broken(7, 7, 13, 1);
        broken(7, 7, 12, 1);
        broken(7, 7, 14, 1);
        broken(7, 7, 15, 0);
        broken(7, 7, 16, 0);
        FrostHouse d = Kit.house("class A { static void main() { throw 9; } }", 1);
        d.run(5);
        RestoreTest.refused("dead by another", d, i -> i.change(7, 3, 255, 0, 0, 1), 0, NONE);
        RestoreTest.refused("dead, interrupted", d, i -> i.change(7, 2, 1), 5, 7);
        RestoreTest.refused("dead, with a time", d, i -> i.change(7, 10, 1), 5, 7);
        RestoreTest.refused("dead, and joins", d, i -> i.change(7, 15, 0), 5, 7);
        RestoreTest.refused("dead, and waits for a class", d, i -> i.change(7, 16, 0), 5, 7);
        RestoreTest.refused("dead, had it", d, i -> i.change(7, 13, 1), 5, 7);
        RestoreTest.refused("dead, with an outcome", d, i -> i.change(7, 14, 2), 5, 7);
        FrostHouse s = standing("sleep(5);", 41, 6);
        s.run(1);
        RestoreTest.refused("sleeps longer", s, i -> i.change(7, 7, 127, 255, 255, 255), 0, NONE);
        RestoreTest.refused("sleeps no longer", s, i -> i.change(7, 7, 0, 0, 0, 0), 0, NONE);
        RestoreTest.refused("sleeps, interrupted", s, i -> i.change(7, 2, 1), 0, NONE);
        RestoreTest.refused("sleeps, with an object", s, i -> i.change(7, 11, 1), 5, 7);
        RestoreTest.refused("sleeps, had it", s, i -> i.change(7, 13, 1), 5, 7);
        RestoreTest.refused("sleeps, and joins", s, i -> i.change(7, 15, 0), 5, 7);
        RestoreTest.refused("sleeps, and waits for a class", s, i -> i.change(7, 16, 1), 5, 7);
        RestoreTest.refused("sleeps, dead by", s, i -> i.change(7, 6, 1), 5, 7);
        FrostHouse x = RestoreTest.threads();
        RestoreTest.refused("sleeps, with an object that has a monitor", x, i -> i.change(7, 11, 1), 5, 7);
        int one = 1 + 17 + 3 + 4 + 3 + 3;
        Kit.due("thread 1 is blocked at an enter", Image.of(x).sections[7][one], 1);
        RestoreTest.refused("blocked at an enter, had it", x, i -> i.change(7, one + 12, 1), 5, 7);
        RestoreTest.refused("blocked at an enter, with an outcome", x, i -> i.change(7, one + 13, 1), 5, 7);
        RestoreTest.refused("blocked at an enter, with a time", x, i -> i.change(7, one + 9, 1), 5, 7);
        RestoreTest.refused("blocked at an enter, not interrupted", x, i -> i.change(7, one + 1, 0), 0, NONE);
        FrostHouse w = RestoreTest.waits(2);
        int first = 1 + 17 + 4;
        RestoreTest.refused("waits, with an outcome", w, i -> i.change(7, first + 13, 1), 5, 7);
        RestoreTest.refused("waits without a time, with one", w, i -> i.change(7, first + 9, 1), 5, 7);
        RestoreTest.refused("waits, and joins", w, i -> i.change(7, first + 14, 0), 5, 7);
        FrostHouse b = RestoreTest.waits(1);
        int blocked = 1 + 17 + 9;
        for (int outcome : new int[] {0, 1, 2, 3}) {
            RestoreTest.refused("behind a wait, outcome " + outcome, b, i -> i.change(7, blocked + 13, outcome), outcome == 0 ? 5 : 0, outcome == 0 ? 7 : NONE);
        }
    }

    // "5 what it says can't be (place: the first rule below)."
    private static void firstRule() {
        due("1 and 2", i -> i.change(3, 8, 3).change(7, 1, 7), 5, 1);
        due("1 and 7", i -> i.change(3, 8, 3).change(2, 5, 1), 5, 1);
        due("2 and 7", i -> i.change(7, 1, 7).change(2, 5, 1), 5, 2);
        due("4 and 7", i -> i.set(6, 1, 1, 0, 0, 1, 0, 0).change(2, 5, 1), 5, 4);
        due("5 and 7", i -> i.splice(3, 0, 1, 1, 0).change(2, 5, 1), 5, 5);
        due("6 and 7", i -> i.set(8, 255, 1, 0, 0, 0, 0, 0).change(2, 5, 1), 5, 6);
        FrostHouse x = standing("sleep(5);", 41, 6);
        x.run(1);
        RestoreTest.refused("3 and 4", x, i -> i.change(7, 1, 5).set(6, 1, 1, 0, 0, 1, 0, 0), 5, 3);
        RestoreTest.refused("3 and 7", x, i -> i.change(7, 1, 5).change(2, 5, 1), 5, 3);
        // Rules are ahead of what freeze() would tell.
        due("7 and 6", i -> i.change(4, 6, 2).change(3, 5, 0, 0, 0, 0), 5, 7);
    }

    // "6 it is not as freeze() would tell it (the first byte that would be another one)."
    private static void retold() {
        Image image = Image.of(plain());
        // t is null, but its text is interned: w and o are come to first, and are 1 and 2.
        due("other numbers", i -> i.change(3, 5, 0, 0, 0, 0), 6, image.place(3, 12));
        // Nothing else leads to the text: it would not be there, and the last byte of the length would be another one.
        due("what is not reached", i -> i.change(3, 5, 0, 0, 0, 0).set(5, 0), 6, 6);
        due("a monitor that is none", i -> i.set(6, 1, 1, 255, 0, 0, 0, 0), 6, 6);
        FrostHouse x = RestoreTest.threads();
        Image all = Image.of(x);
        RestoreTest.refused("monitors not by rising objects", x, i -> i.set(6, 2, 2, 0, 0, 1, 0, 0, 1, 0, 0, 2, 2, 1, 2, 0), 6, all.place(6, 1));
        FrostHouse p = RestoreTest.point(1);
        // a and b change their places: the first static is 2.
        RestoreTest.refused("statics the other way round", p, i -> i.change(3, 5, 2).change(3, 9, 1), 6, Image.of(p).place(3, 5));
    }

    private static Image lines(String spawns, String call) {
        FrostHouse x = Kit.house("class A { static A l = new A(); static A k = new A(); static void f(A o) { sync (o) { " + call + " } } static void main() { " + spawns + " } }", 50);
        x.run(200);
        return Image.of(x);
    }

    // What an earlier image told of queues and of those that wait does not matter for a later one.
    private static void nothingOfEarlierOnes() {
        String hold = "sync (l) { sync (k) { spawn f(?); spawn f(?); spawn f(?); join(0); } }";
        Image one = lines(hold.replaceFirst("\\?", "l").replaceFirst("\\?", "k").replaceFirst("\\?", "k"), "");
        Image two = lines(hold.replaceAll("\\?", "l"), "");
        Kit.due("l 1, k 2 and 3", Arrays.toString(one.sections[6]), "[2, 1, 0, 0, 1, 1, 1, 0, 2, 0, 0, 1, 2, 2, 3, 0]");
        Kit.due("l 1, 2 and 3", Arrays.toString(two.sections[6]), "[2, 1, 0, 0, 1, 3, 1, 2, 3, 0, 2, 0, 0, 1, 0, 0]");
        String wait = "spawn f(?); sleep(9); spawn f(?); sleep(9); spawn f(?); sleep(9); sync (k) { join(0); }";
        Image three = lines(wait.replaceFirst("\\?", "l").replaceFirst("\\?", "k").replaceFirst("\\?", "k").replace("sync (k) { join(0); }", "join(0);"), "wait(o);");
        Image four = lines(wait.replaceAll("\\?", "l"), "wait(o);");
        Kit.due("l 1, k 2 and 3 wait", Arrays.toString(three.sections[6]), "[2, 1, -1, 0, 0, 0, 1, 1, 2, -1, 0, 0, 0, 2, 2, 3]");
        Kit.due("l 1, 2 and 3 wait", Arrays.toString(four.sections[6]), "[2, 1, -1, 0, 0, 0, 3, 1, 2, 3, 2, 0, 0, 1, 0, 0]");
        FrostHouse x = new FrostHouse();
        Image[] all = {one, two, three, four, one, three, two, four, two, one};
        for (Image image : all) {
            Kit.tape(x, image.build());
            Kit.due("restored", x.restore(0, 0), 0);
            Kit.due("and again", x.restore(0, 0), 0);
            x.freeze();
            Kit.due("as it was told", Arrays.equals(Kit.image(x), image.build()), true);
        }
    }
}
