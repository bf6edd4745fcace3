import java.io.ByteArrayOutputStream;
import java.nio.charset.StandardCharsets;

/** Bytes of messages: numbers with the lowest byte first, texts behind their length. */
final class Bytes {
    static final long NONE4 = 0xFFFFFFFFL;

    private final ByteArrayOutputStream out = new ByteArrayOutputStream();

    Bytes number(long value, int n) {
        for (int i = 0; i < n; i++) {
            out.write((int) (value >>> 8 * i) & 255);
        }
        return this;
    }

    Bytes text(String text) {
        byte[] bytes = text.getBytes(StandardCharsets.ISO_8859_1);
        number(bytes.length, 2);
        return raw(bytes);
    }

    Bytes raw(byte[] bytes) {
        out.write(bytes, 0, bytes.length);
        return this;
    }

    Bytes raw(String text) {
        return raw(text.getBytes(StandardCharsets.ISO_8859_1));
    }

    byte[] all() {
        return out.toByteArray();
    }

    static byte[] message(int type, int tag, byte[] body) {
        return new Bytes().number(7 + body.length, 4).number(type, 1).number(tag, 2).raw(body).all();
    }

    static long numberIn(byte[] bytes, int at, int n) {
        long value = 0;
        for (int i = n - 1; i >= 0; i--) {
            value = value << 8 | bytes[at + i] & 255;
        }
        return value;
    }

    static String textIn(byte[] bytes, int at, int length) {
        return new String(bytes, at, length, StandardCharsets.ISO_8859_1);
    }
}
