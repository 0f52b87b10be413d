/** Promises 1 to 5, 9 and 10: a new object, the stream of bytes, and the output. */
public final class StreamTest {
    private static final String NOTICE = "30 0C 02 01 00 78 07 0A 01 02 04 00 04 00";
    private static final Check CHECK = new Check();

    public static void main(String[] args) {
        newObject();
        feedTakesLowestBytesHighestFirst();
        feedRefusesOtherCounts();
        severalMessagesInOneFeed();
        keptGrowsByteForByte();
        firstByteAndLengths();
        longestMessage();
        closedIgnores();
        unbind();
        connect();
        malformedLeavesCodeAndFound();
        outputInEights();
        ids();
        CHECK.finish();
    }

    private static void newObject() {
        DirectorySession x = new DirectorySession();
        CHECK.same("new open", x.open(), true);
        CHECK.same("new kept", x.kept(), 0);
        CHECK.same("new bound", x.bound(), -1);
        CHECK.same("new code", x.code(), -1);
        CHECK.same("new found", x.found(), 0);
        CHECK.same("new length", x.length(), 0);
        CHECK.same("new output", x.output(0), 0L);
        CHECK.same("new entries", x.entries(), 0);
        CHECK.same("new parent", x.parent(0), -2);
        CHECK.same("new values", x.values(0, 0), -1);
        CHECK.same("new value", x.value(0, 0, 0, 0), -1);
    }

    private static void feedTakesLowestBytesHighestFirst() {
        DirectorySession x = new DirectorySession();
        CHECK.same("high bytes are not fed", x.feed(0x1111111111113005L, 2), 0);
        CHECK.same("kept two", x.kept(), 2);
        CHECK.same("the rest", x.feed(0xFFFFFF0201014200L, 5), 1);
        CHECK.same("it was an unbind", x.open(), false);
        CHECK.same("and no notice", x.length(), 0);
        DirectorySession y = new DirectorySession();
        CHECK.same("eight bytes", y.feed(0x3005020101420030L, 8), 1);
        CHECK.same("the eighth came when it was closed", y.kept(), 0);
    }

    private static void feedRefusesOtherCounts() {
        DirectorySession x = new DirectorySession();
        x.feed(0x30, 1);
        for (int n : new int[] {0, -1, 9, Integer.MIN_VALUE, Integer.MAX_VALUE, 256, 257, 264}) {
            CHECK.same("feed with n " + n, x.feed(0x30, n), -1);
            CHECK.same("nothing is fed with n " + n, x.kept(), 1);
        }
        x.connect();
        x.feed(0x31, 1);
        CHECK.same("closed and a wrong n", x.feed(0, 0), -1);
        CHECK.same("closed and a right n", x.feed(0, 8), 0);
    }

    private static void severalMessagesInOneFeed() {
        DirectorySession x = new DirectorySession();
        byte[] one = Wire.message(5, Wire.delete(""));
        CHECK.same("seven bytes", one.length, 7);
        CHECK.same("three in a row", Wire.feed(x, Wire.join(one, one, one)), 3);
        CHECK.same("still open", x.open(), true);
        CHECK.same("the code", x.code(), 32);
        x.feed(0x3005, 2);
        CHECK.same("two done at once", x.feed(0x0201054A0031L, 6), 2);
        CHECK.same("the latter one's output", Wire.outputHex(x), NOTICE);
        CHECK.same("closed by it", x.open(), false);
    }

    private static void keptGrowsByteForByte() {
        DirectorySession x = new DirectorySession();
        byte[] whole = Wire.message(7, Wire.search("", 2, 0, Wire.and()));
        for (int k = 0; k < whole.length - 1; k++) {
            CHECK.same("not whole", x.feed(whole[k], 1), 0);
            CHECK.same("kept", x.kept(), k + 1);
            CHECK.same("no output yet", x.length(), 0);
        }
        CHECK.same("whole", x.feed(whole[whole.length - 1], 1), 1);
        CHECK.same("nothing kept", x.kept(), 0);
        CHECK.same("its output", Wire.outputHex(x), Wire.hex(Wire.result(7, 0x65, 0)));
        x.feed(0x3007, 2);
        CHECK.same("the next one begins", x.kept(), 2);
        CHECK.same("the output stays until it is whole", x.length(), 14);
    }

    private static void malformedAt(String what, byte[] all) {
        DirectorySession x = new DirectorySession();
        for (int k = 0; k < all.length - 1; k++) {
            CHECK.same(what + " not yet malformed", x.feed(all[k], 1), 0);
            CHECK.same(what + " still open", x.open(), true);
        }
        CHECK.same(what + " malformed", x.feed(all[all.length - 1], 1), 1);
        CHECK.same(what + " closed", x.open(), false);
        CHECK.same(what + " kept", x.kept(), 0);
        CHECK.same(what + " notice", Wire.outputHex(x), NOTICE);
        CHECK.same(what + " code", x.code(), -1);
    }

    private static void firstByteAndLengths() {
        for (int first = 0; first < 256; first++) {
            if (first != 0x30) {
                malformedAt("first byte " + first, Wire.bytes(first));
            }
        }
        malformedAt("no content", Wire.bytes(0x30, 0));
        malformedAt("no content, long", Wire.bytes(0x30, 0x81, 0));
        for (int length = 0x80; length < 256; length++) {
            if (length != 0x81) {
                malformedAt("length " + length, Wire.bytes(0x30, length));
            }
        }
        for (int length = 151; length < 256; length++) {
            malformedAt("length 0x81 " + length, Wire.bytes(0x30, 0x81, length));
        }
        DirectorySession x = new DirectorySession();
        x.feed(0x307F, 2);
        CHECK.same("length 127 may come", x.kept(), 2);
        x.connect();
        x.feed(0x308196, 3);
        CHECK.same("length 150 may come", x.kept(), 3);
        x.connect();
        CHECK.same("a short message with long lengths",
                Wire.feed(x, Wire.longTlv(0x30, Wire.longTlv(2, Wire.bytes(0, 9)),
                        Wire.longTlv(0x4A, Wire.latin("n=a")))), 1);
        CHECK.same("its answer", Wire.outputHex(x), Wire.hex(Wire.result(9, 0x6B, 32)));
    }

    private static void longestMessage() {
        byte[] rest = Wire.join(Wire.attribute("d", "123456789012345678901234567890"),
                Wire.attribute("d", "123456789012345678901234567890"),
                Wire.attribute("d", "123456789012345678901234567890"));
        for (int pad = 0; pad < 10; pad++) {
            byte[] last = Wire.attribute("d", "1".repeat(pad));
            byte[] whole = Wire.message(300, Wire.longTlv(0x68, Wire.text("n=a"),
                    Wire.longTlv(0x30, rest, last)));
            int content = whole.length - 3;
            DirectorySession x = new DirectorySession();
            CHECK.same("done, content " + content, Wire.feed(x, whole), 1);
            CHECK.same("open, content " + content, x.open(), content <= 150);
            CHECK.same("code, content " + content, x.code(), content <= 150 ? 21 : -1);
        }
    }

    private static void closedIgnores() {
        DirectorySession x = new DirectorySession();
        x.feed(0x31, 1);
        CHECK.same("nothing done", Wire.feed(x, Wire.message(1, Wire.bind(3, "", ""))), 0);
        CHECK.same("nothing kept", x.kept(), 0);
        CHECK.same("no code", x.code(), -1);
        CHECK.same("the notice stays", Wire.outputHex(x), NOTICE);
    }

    private static void unbind() {
        DirectorySession x = new DirectorySession();
        Wire.ask(x, Wire.bind(3, "", ""));
        CHECK.same("unbind is done", Wire.feed(x, Wire.message(2, Wire.unbind())), 1);
        CHECK.same("unbind closes", x.open(), false);
        CHECK.same("unbind has no output", x.length(), 0);
        CHECK.same("unbind has no output byte", x.output(0), 0L);
        CHECK.same("unbind leaves the code", x.code(), 0);
    }

    private static void connect() {
        DirectorySession x = new DirectorySession();
        Wire.ask(x, Wire.add("n=a", Wire.attribute("o", "g", "x"), Wire.attribute("n", "a"),
                Wire.attribute("s", "k")));
        Wire.ask(x, Wire.bind(3, "n=a", "k"));
        Wire.ask(x, Wire.search("", 2, 0, Wire.and()));
        String before = Wire.outputHex(x);
        x.feed(0x3010, 2);
        x.connect();
        CHECK.same("connect: open", x.open(), true);
        CHECK.same("connect: kept", x.kept(), 0);
        CHECK.same("connect: bound", x.bound(), -1);
        CHECK.same("connect: code", x.code(), 0);
        CHECK.same("connect: found", x.found(), 1);
        CHECK.same("connect: output", Wire.outputHex(x), before);
        CHECK.same("connect: entries", x.entries(), 1);
        CHECK.same("the stream begins anew", Wire.feed(x, Wire.message(1, Wire.delete(""))), 1);
    }

    private static void malformedLeavesCodeAndFound() {
        DirectorySession x = new DirectorySession();
        Wire.ask(x, Wire.add("n=a", Wire.attribute("o", "g"), Wire.attribute("n", "a")));
        Wire.ask(x, Wire.search("", 2, 0, Wire.and()));
        Wire.ask(x, Wire.delete("a"));
        Wire.feed(x, Wire.message(1, Wire.search("n=b", 3, 0, Wire.and())));
        CHECK.same("malformed leaves the code", x.code(), 34);
        CHECK.same("malformed leaves found", x.found(), 1);
        CHECK.same("malformed leaves the entries", x.entries(), 1);
    }

    private static void outputInEights() {
        DirectorySession x = new DirectorySession();
        Wire.ask(x, 1, Wire.bind(2, "", ""));
        CHECK.same("length", x.length(), 14);
        CHECK.same("output 0", x.output(0), 0x300C02010161070AL);
        CHECK.same("output 1", x.output(1), 0x0102040004000000L);
        for (int k : new int[] {2, 3, -1, Integer.MIN_VALUE, Integer.MAX_VALUE, 1 << 29, 1 << 28}) {
            CHECK.same("output " + k, x.output(k), 0L);
        }
        Wire.ask(x, Wire.add("n=a", Wire.attribute("o", "g"), Wire.attribute("n", "a")));
        CHECK.same("an answer replaces the one before", x.length(), 14);
    }

    private static void ids() {
        int[] good = {1, 127, 128, 255, 256, 32767};
        String[] written = {"02 01 01", "02 01 7F", "02 02 00 80", "02 02 00 FF", "02 02 01 00",
            "02 02 7F FF"};
        for (int k = 0; k < good.length; k++) {
            DirectorySession x = new DirectorySession();
            Wire.ask(x, good[k], Wire.delete(""));
            CHECK.same("id " + good[k], Wire.outputHex(x).substring(6, 6 + written[k].length()),
                    written[k]);
        }
        DirectorySession x = new DirectorySession();
        Wire.feed(x, Wire.tlv(0x30, Wire.tlv(2, Wire.bytes(0, 5)), Wire.delete("")));
        CHECK.same("an id in two bytes", Wire.outputHex(x), Wire.hex(Wire.result(5, 0x6B, 32)));
        byte[][] bad = {Wire.tlv(2, Wire.bytes(0)), Wire.tlv(2, Wire.bytes(0x80)),
            Wire.tlv(2, Wire.bytes(0xFF, 0xFF)), Wire.tlv(2, Wire.bytes(0, 0)), Wire.tlv(2),
            Wire.tlv(2, Wire.bytes(0, 0, 1)), Wire.tlv(3, Wire.bytes(1)), Wire.bytes()};
        for (byte[] id : bad) {
            malformedAt("id " + Wire.hex(id), Wire.tlv(0x30, id, Wire.delete("")));
        }
    }
}
