import java.io.ByteArrayOutputStream;
import java.util.zip.CRC32;

/** An image as its eight sections, to be looked at, changed and put together again. */
final class Image {
    final byte[][] sections = new byte[9][];

    Image(byte[] bytes) {
        int at = 7;
        for (int i = 1; i <= 8; i++) {
            int size = number(bytes, at + 1, 4);
            sections[i] = java.util.Arrays.copyOfRange(bytes, at + 5, at + 5 + size);
            at += 5 + size;
        }
    }

    static Image of(FrostHouse x) {
        x.freeze();
        return new Image(Kit.image(x));
    }

    static int number(byte[] bytes, int at, int size) {
        int v = 0;
        for (int i = 0; i < size; i++) {
            v = v << 8 | bytes[at + i] & 255;
        }
        return v;
    }

    /** A section becomes these bytes, told as numbers. */
    Image set(int section, int... bytes) {
        sections[section] = bytes(bytes);
        return this;
    }

    Image change(int section, int at, int... bytes) {
        for (int i = 0; i < bytes.length; i++) {
            sections[section][at + i] = (byte) bytes[i];
        }
        return this;
    }

    /** Some bytes of a section are replaced by others. */
    Image splice(int section, int at, int gone, int... bytes) {
        ByteArrayOutputStream out = new ByteArrayOutputStream();
        byte[] old = sections[section];
        out.write(old, 0, at);
        for (int b : bytes) {
            out.write(b);
        }
        out.write(old, at + gone, old.length - at - gone);
        sections[section] = out.toByteArray();
        return this;
    }

    /** The place of a section's byte in the image. */
    int place(int section, int at) {
        int place = 7;
        for (int i = 1; i < section; i++) {
            place += 5 + sections[i].length;
        }
        return place + 5 + at;
    }

    byte[] build() {
        ByteArrayOutputStream out = new ByteArrayOutputStream();
        int length = 11;
        for (int i = 1; i <= 8; i++) {
            length += 5 + sections[i].length;
        }
        for (int b : new int[] {70, 82, 1}) {
            out.write(b);
        }
        four(out, length);
        for (int i = 1; i <= 8; i++) {
            out.write(i);
            four(out, sections[i].length);
            out.write(sections[i], 0, sections[i].length);
        }
        CRC32 crc = new CRC32();
        crc.update(out.toByteArray());
        four(out, (int) crc.getValue());
        return out.toByteArray();
    }

    static void four(ByteArrayOutputStream out, int v) {
        for (int shift = 24; shift >= 0; shift -= 8) {
            out.write(v >>> shift);
        }
    }

    static byte[] bytes(int... numbers) {
        byte[] all = new byte[numbers.length];
        for (int i = 0; i < numbers.length; i++) {
            all[i] = (byte) numbers[i];
        }
        return all;
    }
}
