import java.util.Random;

/** Scrambled texts and tapes, and calls with arguments by chance: no call ever breaks the house, and faults lie within the text. */
public final class ScrambleTest {
    private static final String[] TOKENS = ("catch class else if int new null res return row spawn static sync text this throw try void while "
        + "( ) { } [ ] ; , . = == != < <= > >= + - * / % && || ! A B x y main print wait 0 1 2147483647 2147483648 \"\" \"ab\" f freeze thaw & | # _ abcdefghijklm").split(" ");

    public static void main(String[] args) {
        int seeds = args.length > 0 ? Integer.parseInt(args[0]) : 1500;
        int[] kinds = new int[6];
        FrostHouse x = new FrostHouse();
        for (int seed = 0; seed < seeds; seed++) {
            Random random = new Random(seed);
            String text = seed % 3 == 0 ? soup(random) : scrambled(new Weaver(seed).weave(), random, seed % 3 == 1);
            int answer = Kit.load(x, text, 1 + random.nextInt(50));
            kinds[x.fault(0)]++;
            boolean isWithin = x.fault(1) >= 0 && x.fault(1) <= Math.min(text.length(), 2000);
            Kit.due("seed " + seed + ": a fault has a place", x.fault(0) == 0 ? x.fault(1) == -1 && answer >= 0 : isWithin && answer == -1, true);
            if (answer >= 0) {
                x.run(random.nextInt(3000));
                x.freeze();
                x.take();
                x.patch(random.nextInt(x.about(1) + 1), random.nextInt());
                x.restore(random.nextLong() >>> 2, 5);
            }
            calls(x, random);
        }
        for (int kind : new int[] {0, 1, 2, 3}) {
            Kit.due("texts with kind " + kind, kinds[kind] > 0, true);
        }
        Kit.done();
    }

    private static String soup(Random random) {
        StringBuilder text = new StringBuilder(random.nextBoolean() ? "class A { static void main() { " : "class A { ");
        int n = random.nextInt(300);
        for (int i = 0; i < n; i++) {
            text.append(TOKENS[random.nextInt(TOKENS.length)]).append(random.nextInt(4) == 0 ? "" : " ");
        }
        return text.toString();
    }

    private static String scrambled(String woven, Random random, boolean byBytes) {
        StringBuilder text = new StringBuilder(woven);
        int n = 1 + random.nextInt(3);
        for (int i = 0; i < n; i++) {
            int at = random.nextInt(text.length());
            String other = TOKENS[random.nextInt(TOKENS.length)];
            if (byBytes) {
                text.setCharAt(at, (char) random.nextInt(256));
            } else if (random.nextBoolean()) {
                text.insert(at, other);
            } else {
                text.replace(at, Math.min(text.length(), at + 1 + random.nextInt(4)), other);
            }
        }
        return text.toString();
    }

    private static int number(Random random) {
        int[] some = {0, 1, 2, 7, 8, -1, 10, 12, 100, 150, 1000, 65000, 2147483647, -2147483648, random.nextInt(), random.nextInt(400)};
        return some[random.nextInt(some.length)];
    }

    private static void calls(FrostHouse x, Random random) {
        for (int i = 0; i < 40; i++) {
            int a = number(random);
            int b = number(random);
            switch (random.nextInt(18)) {
                case 0: x.feed(a, b, a, b, a); break;
                case 1: x.end(a); break;
                case 2: x.load(a); break;
                case 3: x.fault(a); break;
                case 4: x.run(random.nextInt(50)); break;
                case 5: x.about(a); break;
                case 6: x.clock(); break;
                case 7: x.out(a); break;
                case 8: x.freeze(); break;
                case 9: x.image(a); break;
                case 10: x.take(); break;
                case 11: x.patch(a, b); break;
                case 12: x.seal(); break;
                case 13: x.restore(random.nextLong(), a); break;
                case 14: x.thaw(); break;
                case 15: x.thread(a, b); break;
                case 16: x.method(a, b); break;
                default: x.klass(a, b); break;
            }
        }
    }
}
