import java.nio.charset.StandardCharsets;

/** Feeds texts, of any length, to an object by twenty bytes at a time. */
final class Texts {
    private Texts() {
    }

    static byte[] bytes(String text) {
        return text.getBytes(StandardCharsets.ISO_8859_1);
    }

    /** The five ints for the twenty bytes from a place on; blanks behind the end. */
    static int[] ints(byte[] bytes, int from) {
        int[] ints = new int[5];
        for (int i = 0; i < 20; i++) {
            int one = from + i < bytes.length ? bytes[from + i] & 255 : 32;
            ints[i / 4] = ints[i / 4] << 8 | one;
        }
        return ints;
    }

    static void feed(MoonDials x, String text) {
        byte[] bytes = bytes(text);
        int fed = 0;
        for (; fed < bytes.length; fed += 20) {
            int[] i = ints(bytes, fed);
            x.feed(i[0], i[1], i[2], i[3], i[4]);
        }
        x.back(fed - bytes.length);
    }

    static int read(MoonDials x, String text) {
        feed(x, text);
        return x.read();
    }

    /** A new object that has read a text without a fault. */
    static MoonDials garden(String text) {
        MoonDials x = new MoonDials();
        int fault = read(x, text);
        if (fault != 0) {
            throw new IllegalStateException("fault " + fault + " at " + x.place() + " of " + text);
        }
        return x;
    }
}
