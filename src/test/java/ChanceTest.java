import java.util.Arrays;
import java.util.Random;

/** Programs by chance: what is frozen and restored at any step goes on as if nothing had been; no image ever breaks the house. */
public final class ChanceTest {
    private static int loaded = 0;
    private static int restored = 0;
    private static int accepted = 0;
    private static final int[] refused = new int[8];

    public static void main(String[] args) {
        int seeds = args.length > 0 ? Integer.parseInt(args[0]) : 60;
        int first = args.length > 1 ? Integer.parseInt(args[1]) : 1;
        for (int seed = first; seed < first + seeds; seed++) {
            String text = new Weaver(seed).weave();
            Random random = new Random(seed);
            FrostHouse x = new FrostHouse();
            if (Kit.load(x, text, 1 + random.nextInt(9)) < 0) {
                if (x.fault(0) < 4 && text.length() <= 2000) {
                    Kit.due("seed " + seed + " has fault " + x.fault(0) + " at " + x.fault(1) + ": "
                        + text.substring(Math.max(0, x.fault(1) - 20), Math.min(text.length(), x.fault(1) + 20)), 1, 0);
                }
                continue;
            }
            loaded++;
            goThrough(seed, x, random);
        }
        Kit.due("half of the programs load", loaded * 2 > seeds, true);
        Kit.due("images are restored", restored > seeds, true);
        System.out.println(loaded + " loaded, " + restored + " restored, " + accepted + " changed ones accepted, refused " + Arrays.toString(refused));
        Kit.done();
    }

    private static void goThrough(int seed, FrostHouse x, Random random) {
        FrostHouse y = new FrostHouse();
        for (int i = 0; i < 60; i++) {
            x.run(1 + random.nextInt(12));
            if (x.about(0) == 2) {
                x.thaw();
            }
            if (x.freeze() < 0) {
                continue;
            }
            byte[] image = Kit.image(x);
            Kit.tape(y, image);
            Kit.due("seed " + seed + " restore (place " + y.fault(3) + ")", y.restore(x.clock(), 0), 0);
            restored++;
            Kit.due("seed " + seed + " state", y.about(0), x.about(0));
            compare(seed, x, y, image);
            int out = x.about(3);
            int steps = random.nextInt(30);
            FrostHouse z = new FrostHouse();
            Kit.tape(z, image);
            z.restore(x.clock(), 0);
            Kit.due("seed " + seed + " steps", z.run(steps), x.run(steps));
            Kit.due("seed " + seed + " clock", z.clock(), x.clock());
            Kit.due("seed " + seed + " out", Kit.out(z), Kit.out(x).substring(Math.min(out, Kit.out(x).length())));
            x.thaw();
            z.thaw();
            if (x.freeze() >= 0) {
                compare(seed, x, z, Kit.image(x));
            }
            change(image, y, random);
        }
    }

    private static void compare(int seed, FrostHouse x, FrostHouse y, byte[] image) {
        y.freeze();
        Kit.due("seed " + seed + " image", Arrays.equals(image, Kit.image(y)), true);
        for (int what = 4; what <= 14; what++) {
            Kit.due("seed " + seed + " about " + what, y.about(what), x.about(what));
        }
        for (int t = 0; t < x.about(4); t++) {
            for (int what = 0; what <= 8; what++) {
                Kit.due("seed " + seed + " thread " + t + ", " + what, y.thread(t, what), x.thread(t, what));
            }
        }
        for (int c = 0; c < x.about(14); c++) {
            Kit.due("seed " + seed + " class " + c, y.klass(c, 0) * 10 + y.klass(c, 1), x.klass(c, 0) * 10 + x.klass(c, 1));
        }
    }

    /** Changed images are refused, or go on and can be told again. */
    private static void change(byte[] image, FrostHouse y, Random random) {
        for (int i = 0; i < 40; i++) {
            byte[] changed = image.clone();
            int text = 12 + ((image[10] & 255) << 8 | image[11] & 255);
            int changes = 1 + random.nextInt(3);
            for (int k = 0; k < changes; k++) {
                int at = text + random.nextInt(image.length - text);
                int[] some = {0, 1, 2, 3, 4, 5, 6, 7, 8, 255, random.nextInt(256), changed[at] + 1, changed[at] - 1};
                changed[at] = (byte) some[random.nextInt(some.length)];
            }
            Kit.tape(y, changed);
            y.seal();
            int kind = y.restore(random.nextInt(1000), 3);
            refused[kind]++;
            if (kind == 0) {
                accepted++;
                y.freeze();
                byte[] again = Kit.image(y);
                Kit.due("a changed image is told again", Arrays.equals(Arrays.copyOf(changed, changed.length - 4), Arrays.copyOf(again, again.length - 4)), true);
                y.run(300);
                y.thaw();
                y.run(300);
                y.freeze();
            }
        }
    }
}
