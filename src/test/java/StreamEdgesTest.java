/** The boundary cases of lengths, of the stream and of the output, sentence by sentence. */
public final class StreamEdgesTest {
    private static final Check CHECK = new Check();
    private static final String NOTICE = "30 0C 02 01 00 78 07 0A 01 02 04 00 04 00";
    private static final byte[] DELETE_ROOT = Wire.message(5, Wire.delete(""));
    private static final byte[] UNBIND = Wire.message(5, Wire.unbind());

    public static void main(String[] args) {
        lengthOfOneByte();
        lengthOfTwoBytes();
        lengthsInside();
        lengthsWrittenOut();
        closedIgnores();
        closedWithinAFeed();
        messageOfAtMost150();
        keptUntilWhole();
        nextByteBeginsTheNext();
        anotherFirstByte();
        notOfTheFormOnlyWhenWhole();
        malformed();
        outputBefore();
        outputOfTheLatest();
        CHECK.finish();
    }

    private static DirectorySession after(int... bytes) {
        DirectorySession x = new DirectorySession();
        Wire.feed(x, Wire.bytes(bytes));
        return x;
    }

    private static void isKept(String what, DirectorySession x, int kept) {
        CHECK.same(what + ": open", x.open(), true);
        CHECK.same(what + ": kept", x.kept(), kept);
        CHECK.same(what + ": output", x.length(), 0);
    }

    private static void isMalformed(String what, DirectorySession x) {
        CHECK.same(what + ": open", x.open(), false);
        CHECK.same(what + ": kept", x.kept(), 0);
        CHECK.same(what + ": output", Wire.outputHex(x), NOTICE);
    }

    private static void lengthOfOneByte() {
        CHECK.sentence("A length is one byte 0 .. 127; nothing else is a length");
        isMalformed("30 00 is whole and empty", after(0x30, 0));
        for (int length = 1; length <= 127; length++) {
            isKept("30 and length " + length, after(0x30, length), 2);
        }
        isMalformed("30 80", after(0x30, 0x80));
        isKept("30 81", after(0x30, 0x81), 2);
        for (int length = 0x82; length <= 255; length++) {
            isMalformed("30 and no length " + length, after(0x30, length));
        }
    }

    private static void lengthOfTwoBytes() {
        CHECK.sentence("or the byte 0x81 and one more byte 0 .. 255");
        isMalformed("30 81 00 is whole and empty", after(0x30, 0x81, 0));
        for (int length = 1; length <= 150; length++) {
            isKept("30 81 and length " + length, after(0x30, 0x81, length), 3);
        }
        byte[] longForms = Wire.longTlv(0x30, Wire.longTlv(2, Wire.bytes(7)),
                Wire.longTlv(0x4A, Wire.latin("n=a")));
        DirectorySession x = new DirectorySession();
        CHECK.same("short lengths in the long form", Wire.feed(x, longForms), 1);
        CHECK.same("are lengths", Wire.outputHex(x), Wire.hex(Wire.result(7, 0x6B, 32)));
    }

    private static void lengthsInside() {
        CHECK.sentence("A length inside is one byte 0 .. 127, or 0x81 and one more; nothing else");
        for (int size = 120; size <= 130; size++) {
            byte[] content = Wire.join(Wire.text(""), Wire.tlv(0x30, Wire.attributesOfSize(size - 4)));
            CHECK.same("bytes of the content", content.length, size);
            byte[] inTwo = Wire.join(Wire.bytes(0x68, 0x81, size), content);
            byte[] inOne = Wire.join(Wire.bytes(0x68, size), content);
            answers("length " + size + " with 0x81", inTwo, 17);
            answers("length " + size + " in one byte", inOne, size < 128 ? 17 : -1);
        }
        for (int length = 0x80; length <= 255; length++) {
            byte[] name = Wire.join(Wire.bytes(0x4A, length), Wire.latin("n=a"));
            byte[] none = Wire.join(Wire.bytes(0x4A, length));
            answers("inside, no length " + length, name, -1);
            answers("inside at the end, no length " + length, none, -1);
        }
        for (int length = 0; length <= 255; length++) {
            byte[] name = Wire.join(Wire.bytes(0x4A, 0x81, length), Wire.latin("n=a"));
            answers("inside, 0x81 and " + length, name, length == 3 ? 32 : -1);
        }
    }

    /** A code of -1 stands for a message that is not of the form. */
    private static void answers(String what, byte[] request, int code) {
        DirectorySession x = new DirectorySession();
        CHECK.same(what + " is done", Wire.feed(x, Wire.message(1, request)), 1);
        CHECK.same(what + ": code", x.code(), code);
        CHECK.same(what + ": open", x.open(), code != -1);
    }

    private static void lengthsWrittenOut() {
        CHECK.sentence("In what is written out, a length below 128 has one byte, a greater one two");
        boolean[] innerSeen = new boolean[200];
        boolean[] outerSeen = new boolean[200];
        for (int size = 3; size <= 18; size++) {
            for (int id : new int[] {127, 128}) {
                DirectorySession x = longNames(size);
                Wire.ask(x, id, Wire.search("", 2, 0, Wire.present("d")));
                byte[] all = Wire.output(x);
                int idBytes = id < 128 ? 3 : 4;
                int outer = longEntry(size).length + (longEntry(size).length < 128 ? 2 : 3) + idBytes;
                int header = outer < 128 ? 2 : 3;
                innerSeen[longEntry(size).length] = true;
                outerSeen[outer] = true;
                byte[] due = Wire.join(headerOf(0x30, outer), Wire.integer(id),
                        headerOf(0x64, longEntry(size).length), longEntry(size),
                        Wire.result(id, 0x65, 0));
                CHECK.same("contents of " + outer + " and " + longEntry(size).length,
                        Wire.hex(all), Wire.hex(due));
                CHECK.same("bytes in all", all.length, header + outer + 11 + idBytes);
            }
        }
        for (int length : new int[] {126, 127, 128, 129}) {
            CHECK.holds("an entry's length " + length + " was seen", innerSeen[length]);
            CHECK.holds("a message's length " + length + " was seen", outerSeen[length]);
        }
    }

    private static byte[] headerOf(int tag, int length) {
        return length < 128 ? Wire.bytes(tag, length) : Wire.bytes(tag, 0x81, length);
    }

    private static String[] descriptions(int size) {
        int first = Math.min(6, size - 2);
        int second = Math.min(6, size - first - 1);
        return new String[] {"1".repeat(first), "2".repeat(second), "3".repeat(size - first - second)};
    }

    /** Three entries one below the other with the longest names; the lowest one has descriptions. */
    private static DirectorySession longNames(int size) {
        DirectorySession x = new DirectorySession();
        Wire.ask(x, Wire.add("n=a", Wire.attribute("o", "g"), Wire.attribute("n", "a")));
        Wire.ask(x, Wire.add("n=b,n=a", Wire.attribute("o", "g"), Wire.attribute("n", "b")));
        Wire.ask(x, Wire.add("n=c,n=b,n=a", Wire.attribute("o", "h", "x"), Wire.attribute("n", "c"),
                Wire.attribute("d", descriptions(size)), Wire.attribute("i", "-9999"),
                Wire.attribute("s", "123456")));
        Wire.ask(x, Wire.rename("n=c,n=b,n=a", "n=\\,\\,\\,\\,\\,\\,", 1));
        Wire.ask(x, Wire.rename("n=b,n=a", "n=\\,\\,\\,\\,\\,\\,", 1));
        Wire.ask(x, Wire.rename("n=a", "n=\\,\\,\\,\\,\\,\\,", 1));
        CHECK.same("the names are given", x.code(), 0);
        return x;
    }

    private static byte[] longEntry(int size) {
        String part = "n=\\,\\,\\,\\,\\,\\,";
        return Wire.join(Wire.text(part + "," + part + "," + part), Wire.tlv(0x30,
                Wire.attribute("o", "h", "x"), Wire.attribute("n", ",,,,,,"),
                Wire.attribute("d", descriptions(size)), Wire.attribute("i", "-9999"),
                Wire.attribute("s", "123456")));
    }

    private static void closedIgnores() {
        CHECK.sentence("Bytes that are fed while it is closed are ignored");
        for (byte[] closing : new byte[][] {UNBIND, Wire.bytes(0x31), Wire.bytes(0x30, 0)}) {
            DirectorySession x = new DirectorySession();
            Wire.ask(x, Wire.bind(2, "", ""));
            Wire.feed(x, closing);
            String before = Model.session(x);
            byte[] add = Wire.message(1,
                    Wire.add("n=a", Wire.attribute("o", "g"), Wire.attribute("n", "a")));
            for (byte[] more : new byte[][] {add, DELETE_ROOT, UNBIND, Wire.bytes(0x31), Wire.bytes(0x30)}) {
                CHECK.same("none is done when it is closed", Wire.feed(x, more), 0);
                CHECK.same("nothing changes when it is closed", Model.session(x), before);
            }
        }
    }

    private static void closedWithinAFeed() {
        CHECK.sentence("Bytes of the same feed, behind the one that closes it, are ignored too");
        DirectorySession x = new DirectorySession();
        CHECK.same("unbind and a byte", x.feed(0x3005020105420030L, 8), 1);
        CHECK.same("unbind: kept", x.kept(), 0);
        CHECK.same("unbind: length", x.length(), 0);
        DirectorySession y = new DirectorySession();
        CHECK.same("malformed eight times over", y.feed(0x3131313131313131L, 8), 1);
        isMalformed("the first of them", y);
        DirectorySession z = new DirectorySession();
        CHECK.same("malformed and then a beginning", z.feed(0x3080300502010542L, 8), 1);
        isMalformed("the beginning is not kept", z);
    }

    private static void messageOfAtMost150() {
        CHECK.sentence("A MESSAGE is a TLV with the tag 0x30 and a length of at most 150");
        for (int size = 19; size <= 150; size++) {
            DirectorySession x = new DirectorySession();
            byte[] whole = Wire.messageOfSize(size);
            CHECK.same("bytes of the message", whole.length, size + 3);
            CHECK.same("length " + size + " is done", Wire.feed(x, whole), 1);
            CHECK.same("length " + size + " is answered", Wire.outputHex(x),
                    Wire.hex(Wire.result(1, 0x69, 17)));
        }
        for (int size = 151; size <= 255; size++) {
            DirectorySession x = after(0x30, 0x81);
            isKept("not yet", x, 2);
            CHECK.same("length " + size + " is malformed at once", x.feed(size, 1), 1);
            isMalformed("length " + size, x);
        }
    }

    private static void keptUntilWhole() {
        CHECK.sentence("Bytes are kept until a message is whole; then it is done");
        byte[] whole = Wire.messageOfSize(150);
        DirectorySession x = new DirectorySession();
        for (int k = 0; k < 152; k++) {
            CHECK.same("byte " + k + " does none", x.feed(whole[k], 1), 0);
            CHECK.same("kept after byte " + k, x.kept(), k + 1);
        }
        isKept("all but one", x, 152);
        CHECK.same("the last byte does it", x.feed(whole[152], 1), 1);
        CHECK.same("none is kept", x.kept(), 0);
        CHECK.same("it is answered", x.code(), 17);
    }

    private static void nextByteBeginsTheNext() {
        CHECK.sentence("and the next byte begins the next one");
        for (int n = 1; n <= 8; n++) {
            DirectorySession x = new DirectorySession();
            byte[] three = Wire.join(DELETE_ROOT, DELETE_ROOT, DELETE_ROOT);
            int done = 0;
            for (int at = 0; at < three.length; at += n) {
                byte[] some = java.util.Arrays.copyOfRange(three, at, Math.min(three.length, at + n));
                done += Wire.feed(x, some);
                CHECK.same("kept after " + (at + some.length), x.kept(), (at + some.length) % 7);
            }
            CHECK.same("three by " + n, done, 3);
        }
        DirectorySession x = new DirectorySession();
        Wire.feed(x, DELETE_ROOT);
        CHECK.same("another first byte of the next one", x.feed(0x31, 1), 1);
        isMalformed("the next one", x);
    }

    private static void anotherFirstByte() {
        CHECK.sentence("As soon as the bytes that are kept can't begin a message (another first byte)");
        for (int first = 0; first <= 255; first++) {
            DirectorySession x = new DirectorySession();
            CHECK.same("first byte " + first, x.feed(first, 1), first == 0x30 ? 0 : 1);
            if (first == 0x30) {
                isKept("first byte 0x30", x, 1);
            } else {
                isMalformed("first byte " + first, x);
            }
        }
    }

    private static void notOfTheFormOnlyWhenWhole() {
        CHECK.sentence("and when a whole message is not of the form below, the stream is MALFORMED");
        byte[] wrong = Wire.tlv(0x30, Wire.tlv(3, Wire.bytes(0)), Wire.tlv(0x99, Wire.latin("abc")));
        DirectorySession x = new DirectorySession();
        for (int k = 0; k < wrong.length - 1; k++) {
            CHECK.same("byte " + k, x.feed(wrong[k], 1), 0);
            isKept("before it is whole", x, k + 1);
        }
        CHECK.same("the last byte", x.feed(wrong[wrong.length - 1], 1), 1);
        isMalformed("when it is whole", x);
    }

    private static void malformed() {
        CHECK.sentence("the output is the NOTICE, the session is closed, and nothing is kept");
        int[][] all = {{0x00}, {0x30, 0x80}, {0x30, 0x81, 151}, {0x30, 0x01, 0x02}, {0x30, 0x81, 1, 0}};
        for (int[] bytes : all) {
            DirectorySession x = new DirectorySession();
            Wire.ask(x, 300, Wire.bind(3, "", "k"));
            CHECK.same("it counts", Wire.feed(x, Wire.bytes(bytes)), 1);
            isMalformed("malformed", x);
            CHECK.same("the notice's first eight bytes", x.output(0), 0x300C02010078070AL);
            CHECK.same("the notice's last six bytes", x.output(1), 0x0102040004000000L);
            CHECK.same("its code is none", x.code(), 49);
        }
    }

    private static void outputBefore() {
        CHECK.sentence("THE OUTPUT: before, it is empty");
        DirectorySession x = new DirectorySession();
        CHECK.same("length", x.length(), 0);
        CHECK.same("output", x.output(0), 0L);
        x.feed(0x3005020105L, 5);
        CHECK.same("length while a message comes", x.length(), 0);
        x.connect();
        CHECK.same("length after connect", x.length(), 0);
        CHECK.same("output after connect", x.output(0), 0L);
    }

    private static void outputOfTheLatest() {
        CHECK.sentence("THE OUTPUT is what the latest whole message, or the latest malformed one, brought out");
        DirectorySession x = new DirectorySession();
        Wire.feed(x, DELETE_ROOT);
        String answer = Wire.hex(Wire.result(5, 0x6B, 32));
        CHECK.same("a whole one", Wire.outputHex(x), answer);
        x.feed(0x30050201L, 4);
        CHECK.same("it stays while the next one comes", Wire.outputHex(x), answer);
        x.feed(0, 9);
        CHECK.same("it stays when nothing is fed", Wire.outputHex(x), answer);
        x.connect();
        x.feed(0, 1);
        CHECK.same("a malformed one", Wire.outputHex(x), NOTICE);
        Wire.feed(x, DELETE_ROOT);
        CHECK.same("it stays when it is closed", Wire.outputHex(x), NOTICE);
        x.connect();
        CHECK.same("it stays by connect", Wire.outputHex(x), NOTICE);
        Wire.feed(x, UNBIND);
        CHECK.same("an unbind's is empty", x.length() + x.output(0), 0L);
        x.connect();
        Wire.feed(x, Wire.join(Wire.message(9, Wire.bind(3, "", "")), DELETE_ROOT));
        CHECK.same("the latter one of two", Wire.outputHex(x), answer);
    }
}
