import java.nio.charset.StandardCharsets;

/** Feeds a text to a MayGreen as a caller would. */
final class Village {
    private Village() {
    }

    /** The text of the object becomes this one. */
    static void write(MayGreen green, String text) {
        green.end(0);
        byte[] bytes = text.getBytes(StandardCharsets.ISO_8859_1);
        for (int at = 0; at < bytes.length; at += 20) {
            green.feed(word(bytes, at), word(bytes, at + 4), word(bytes, at + 8), word(bytes, at + 12),
                word(bytes, at + 16));
        }
        green.end(bytes.length);
    }

    static MayGreen of(String text) {
        MayGreen green = new MayGreen();
        write(green, text);
        if (green.village() == MayGreen.NONE) {
            throw new IllegalStateException("fault at " + green.fault() + " of: " + text);
        }
        return green;
    }

    static int faultOf(String text) {
        MayGreen green = new MayGreen();
        write(green, text);
        return green.fault();
    }

    private static int word(byte[] bytes, int at) {
        int word = 0;
        for (int i = at; i < at + 4; i++) {
            word = word << 8 | (i < bytes.length ? bytes[i] & 255 : ' ');
        }
        return word;
    }
}
