import java.io.ByteArrayOutputStream;
import java.nio.charset.StandardCharsets;

/** Writes messages in bytes and speaks them to a session. */
final class Wire {
    private Wire() {
    }

    static byte[] join(byte[]... parts) {
        ByteArrayOutputStream all = new ByteArrayOutputStream();
        for (byte[] part : parts) {
            all.writeBytes(part);
        }
        return all.toByteArray();
    }

    static byte[] bytes(int... all) {
        byte[] result = new byte[all.length];
        for (int k = 0; k < all.length; k++) {
            result[k] = (byte) all[k];
        }
        return result;
    }

    static byte[] latin(String text) {
        return text.getBytes(StandardCharsets.ISO_8859_1);
    }

    static byte[] tlv(int tag, byte[]... parts) {
        byte[] content = join(parts);
        return content.length < 128
                ? join(bytes(tag, content.length), content)
                : longTlv(tag, content);
    }

    /** With the long form of the length, where the short one would do too. */
    static byte[] longTlv(int tag, byte[]... parts) {
        byte[] content = join(parts);
        return join(bytes(tag, 0x81, content.length), content);
    }

    static byte[] text(String text) {
        return tlv(0x04, latin(text));
    }

    static byte[] integer(int number) {
        return number >= -128 && number < 128
                ? tlv(0x02, bytes(number))
                : tlv(0x02, bytes(number >> 8, number));
    }

    static byte[] choice(int number) {
        return tlv(0x0A, bytes(number));
    }

    static byte[] flag(int number) {
        return tlv(0x01, bytes(number));
    }

    static byte[] texts(String... values) {
        byte[] all = new byte[0];
        for (String value : values) {
            all = join(all, text(value));
        }
        return tlv(0x31, all);
    }

    static byte[] message(int id, byte[] request) {
        return tlv(0x30, integer(id), request);
    }

    static byte[] bind(int version, String name, String secret) {
        return tlv(0x60, integer(version), text(name), tlv(0x80, latin(secret)));
    }

    static byte[] unbind() {
        return tlv(0x42);
    }

    static byte[] delete(String name) {
        return tlv(0x4A, latin(name));
    }

    static byte[] compare(String name, String type, String value) {
        return tlv(0x6E, text(name), tlv(0x30, text(type), text(value)));
    }

    static byte[] attribute(String type, String... values) {
        return tlv(0x30, text(type), texts(values));
    }

    static byte[] add(String name, byte[]... attributes) {
        return tlv(0x68, text(name), tlv(0x30, attributes));
    }

    static byte[] modify(String name, int change, String type, String... values) {
        return tlv(0x66, text(name), choice(change), text(type), texts(values));
    }

    static byte[] rename(String name, String part, int oldGoes) {
        return tlv(0x6C, text(name), text(part), flag(oldGoes));
    }

    static byte[] search(String base, int scope, int limit, byte[] filter) {
        return tlv(0x63, text(base), choice(scope), integer(limit), filter);
    }

    static byte[] and(byte[]... filters) {
        return tlv(0xA0, filters);
    }

    static byte[] or(byte[]... filters) {
        return tlv(0xA1, filters);
    }

    static byte[] not(byte[] filter) {
        return tlv(0xA2, filter);
    }

    static byte[] equal(String type, String value) {
        return tlv(0xA3, text(type), text(value));
    }

    static byte[] atLeast(String type, String value) {
        return tlv(0xA5, text(type), text(value));
    }

    static byte[] atMost(String type, String value) {
        return tlv(0xA6, text(type), text(value));
    }

    static byte[] present(String type) {
        return tlv(0x87, latin(type));
    }

    /** Attributes for an ADD that have just so many bytes together (8 or more). */
    static byte[] attributesOfSize(int size) {
        byte[] all = new byte[0];
        int left = size;
        while (left > 0) {
            // What is left over must do for another attribute, which has 8 bytes at least.
            int one = left <= 68 ? left : Math.min(68, left - 8);
            int inType = Math.min(30, one - 8);
            all = join(all, attribute("x".repeat(inType), "x".repeat(one - 8 - inType)));
            left -= one;
        }
        return all;
    }

    /** A message that is of the form and has a content of just so many bytes (19 or more). */
    static byte[] messageOfSize(int size) {
        byte[] request = longTlv(0x68, text(""), longTlv(0x30, attributesOfSize(size - 11)));
        return longTlv(0x30, integer(1), request);
    }

    static int feed(DirectorySession session, byte[] all) {
        int done = 0;
        for (int start = 0; start < all.length; start += 8) {
            int n = Math.min(8, all.length - start);
            long packed = 0;
            for (int k = 0; k < n; k++) {
                packed = packed << 8 | all[start + k] & 0xFF;
            }
            done += session.feed(packed, n);
        }
        return done;
    }

    /** Feeds one request and tells the code of its answer. */
    static int ask(DirectorySession session, byte[] request) {
        return ask(session, 1, request);
    }

    static int ask(DirectorySession session, int id, byte[] request) {
        byte[] whole = message(id, request);
        int done = feed(session, whole);
        if (done != 1) {
            throw new IllegalStateException("the message was not done: " + hex(whole));
        }
        if (!session.open()) {
            throw new IllegalStateException("the message closed the session: " + hex(whole));
        }
        return session.code();
    }

    static byte[] output(DirectorySession session) {
        byte[] all = new byte[session.length()];
        long eight = 0;
        for (int k = 0; k < all.length; k++) {
            // One call for eight bytes, as an object has 512 calls alone.
            eight = k % 8 == 0 ? session.output(k / 8) : eight;
            all[k] = (byte) (eight >>> 8 * (7 - k % 8));
        }
        return all;
    }

    static String hex(byte[] all) {
        StringBuilder text = new StringBuilder();
        for (byte b : all) {
            text.append(text.length() == 0 ? "" : " ").append(Character.forDigit(b >> 4 & 15, 16))
                    .append(Character.forDigit(b & 15, 16));
        }
        return text.toString().toUpperCase();
    }

    static String outputHex(DirectorySession session) {
        return hex(output(session));
    }

    /** All entries as a search brings them out, their parents, and who is bound. */
    static String everything(DirectorySession session) {
        ask(session, search("", 2, 0, and()));
        StringBuilder all = new StringBuilder(outputHex(session)).append(" parents");
        for (int e = 0; e < session.entries(); e++) {
            all.append(' ').append(session.parent(e));
        }
        return all.append(" bound ").append(session.bound()).toString();
    }

    /** The answer that is due to a request other than UNBIND. */
    static byte[] result(int id, int tag, int code) {
        return message(id, tlv(tag, choice(code), text(""), text("")));
    }

    /** What a search brings out for one entry. */
    static byte[] found(int id, String name, byte[]... attributes) {
        return message(id, tlv(0x64, text(name), tlv(0x30, attributes)));
    }

    /** Value k as a text; null when there is none. */
    static String valueText(DirectorySession session, int e, int t, int k) {
        StringBuilder text = new StringBuilder();
        int b = session.value(e, t, k, 0);
        for (int j = 1; b >= 0; j++) {
            text.append((char) b);
            b = session.value(e, t, k, j);
        }
        return text.length() == 0 ? null : text.toString();
    }

    /** All values of a type, with a / between them. */
    static String valueTexts(DirectorySession session, int e, int t) {
        StringBuilder all = new StringBuilder();
        int values = session.values(e, t);
        for (int k = 0; k < values; k++) {
            all.append(k == 0 ? "" : "/").append(valueText(session, e, t, k));
        }
        return all.toString();
    }
}
