import java.nio.charset.StandardCharsets;

/** What the tests share: checks that are counted, and ways to hand texts and images to a FrostHouse. */
final class Kit {
    private static int wrong = 0;
    private static int checks = 0;

    private Kit() {
    }

    static void due(String what, long got, long want) {
        checks++;
        if (got != want) {
            wrong++;
            System.out.println(what + ": answered " + got + ", due is " + want);
        }
    }

    static void due(String what, boolean got, boolean want) {
        due(what, got ? 1 : 0, want ? 1 : 0);
    }

    static void due(String what, String got, String want) {
        checks++;
        if (!got.equals(want)) {
            wrong++;
            System.out.println(what + ": answered <" + got + ">, due is <" + want + ">");
        }
    }

    /** Ends the test: with exit code 1 if an answer was not the one that is due. */
    static void done() {
        System.out.println(wrong == 0 ? checks + " answers are as due" : wrong + " of " + checks + " answers are not as due");
        if (wrong != 0) {
            System.exit(1);
        }
    }

    /** The tape becomes these bytes. */
    static void tape(FrostHouse x, byte[] bytes) {
        x.end(0);
        int[] five = new int[5];
        for (int i = 0; i < bytes.length; i += 20) {
            for (int k = 0; k < 5; k++) {
                five[k] = 0;
                for (int j = 0; j < 4; j++) {
                    int at = i + 4 * k + j;
                    five[k] = five[k] << 8 | (at < bytes.length ? bytes[at] & 255 : 32);
                }
            }
            x.feed(five[0], five[1], five[2], five[3], five[4]);
        }
        x.end(bytes.length);
    }

    static int load(FrostHouse x, String text, int quantum) {
        tape(x, text.getBytes(StandardCharsets.ISO_8859_1));
        return x.load(quantum);
    }

    /** A house with that program; the load must succeed. */
    static FrostHouse house(String text, int quantum) {
        FrostHouse x = new FrostHouse();
        if (load(x, text, quantum) < 0) {
            due("load of " + text + " (fault " + x.fault(0) + " at " + x.fault(1) + ")", -1, 0);
        }
        return x;
    }

    static String out(FrostHouse x) {
        StringBuilder all = new StringBuilder();
        for (int i = 0; x.out(i) >= 0; i++) {
            all.append(x.out(i) == 10 ? '|' : (char) x.out(i));
        }
        return all.toString();
    }

    static byte[] image(FrostHouse x) {
        byte[] bytes = new byte[x.about(2)];
        for (int i = 0; i < bytes.length; i++) {
            bytes[i] = (byte) x.image(i);
        }
        return bytes;
    }

    /** Runs a program to its end and tells what it printed, with | for each line's end. */
    static String printed(String text, int quantum) {
        FrostHouse x = house(text, quantum);
        x.run(20000);
        return out(x);
    }
}
