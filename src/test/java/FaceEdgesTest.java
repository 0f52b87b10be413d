/** The boundary cases of the promises 1 to 14, call by call. */
public final class FaceEdgesTest {
    private static final Check CHECK = new Check();
    private static final int[] FAR = {-2, -12, 12, 13, 255, 256, 1 << 16, 1 << 28, 1 << 29, 1 << 30,
        Integer.MAX_VALUE, Integer.MIN_VALUE, Integer.MIN_VALUE + 1};
    private static final byte[] SMALL = Wire.message(5, Wire.delete(""));

    public static void main(String[] args) {
        newObject();
        feedTakes1To8();
        feedRefuses();
        feedCounts();
        connectWhenOpen();
        connectWhenClosed();
        open();
        kept();
        bound();
        code();
        found();
        length();
        output();
        outputOutside();
        entries();
        parent();
        values();
        value();
        twoObjects();
        used512Times();
        CHECK.finish();
    }

    private static byte[] add(String name, String value) {
        return Wire.add(name, Wire.attribute("o", "g", "x"), Wire.attribute("n", value), Wire.attribute("s", "k"));
    }

    private static void newObject() {
        CHECK.sentence("Promise 1: No entries; a session is open, nobody is bound, nothing is kept, the output is empty");
        DirectorySession x = new DirectorySession();
        CHECK.same("state", x.entries() + " " + x.open() + " " + x.bound() + " " + x.kept() + " " + x.length(),
                "0 true -1 0 0");
        for (int k = -2; k <= 13; k++) {
            CHECK.same("output " + k, x.output(k), 0L);
            CHECK.same("parent " + k, x.parent(k), -2);
            CHECK.same("values " + k, x.values(k, 0), -1);
            CHECK.same("value " + k, x.value(k, 0, 0, 0), -1);
        }
    }

    private static void feedTakes1To8() {
        CHECK.sentence("Promise 2: Feeds n bytes (1 .. 8): the lowest n bytes of bytes, the highest of these first");
        byte[] whole = Wire.message(1, Wire.bind(3, "n=abc", "abc"));
        for (int n = 1; n <= 8; n++) {
            for (long above : new long[] {0L, -1L, 0x3131313131313131L}) {
                DirectorySession x = new DirectorySession();
                int done = 0;
                for (int at = 0; at < whole.length; at += n) {
                    int size = Math.min(n, whole.length - at);
                    long bytes = above;
                    for (int k = 0; k < size; k++) {
                        bytes = bytes << 8 | whole[at + k] & 0xFF;
                    }
                    CHECK.same("kept before", x.kept(), at);
                    done += x.feed(bytes, size);
                }
                CHECK.same("done by " + n, done, 1);
                CHECK.same("the answer by " + n, x.code(), 49);
            }
        }
        DirectorySession y = new DirectorySession();
        Wire.ask(y, Wire.add("n=a", Wire.attribute("o", "g", "x"), Wire.attribute("n", "a"),
                Wire.attribute("s", "\u0080\u00ff\u0081\0\u007f\u0001")));
        CHECK.same("bytes above 127", y.value(0, 4, 0, 0) + " " + y.value(0, 4, 0, 1) + " " + y.value(0, 4, 0, 2)
                + " " + y.value(0, 4, 0, 3) + " " + y.value(0, 4, 0, 4), "128 255 129 0 127");
    }

    private static void feedRefuses() {
        CHECK.sentence("Promise 2: -1, feeding nothing, when n is not so");
        int[] wrong = {0, -1, 9, 10, 16, 64, -8, 256, 257, 264, 1 << 29, Integer.MIN_VALUE, Integer.MIN_VALUE + 1,
            Integer.MAX_VALUE};
        for (int n : wrong) {
            DirectorySession x = new DirectorySession();
            CHECK.same("new, n " + n, x.feed(0x31, n), -1);
            CHECK.same("nothing is fed", x.kept() + " " + x.open() + " " + x.length(), "0 true 0");
            x.feed(0x3005020105L, 5);
            CHECK.same("in a message, n " + n, x.feed(0x4A00, n), -1);
            CHECK.same("nothing is fed there", x.kept() + " " + x.open() + " " + x.length(), "5 true 0");
            CHECK.same("the message goes on", x.feed(0x4A00, 2), 1);
            x.feed(0x31, 1);
            CHECK.same("closed, n " + n, x.feed(0x31, n), -1);
            CHECK.same("closed, a right n", x.feed(0x31, 1), 0);
        }
    }

    private static void feedCounts() {
        CHECK.sentence("Promise 2: Answers how many messages were done in it (malformed ones count)");
        DirectorySession x = new DirectorySession();
        CHECK.same("none", x.feed(0x300502010542L, 6), 0);
        CHECK.same("an unbind", x.feed(0x00, 1), 1);
        CHECK.same("when it is closed", x.feed(0x30, 1), 0);
        DirectorySession y = new DirectorySession();
        CHECK.same("one", y.feed(0x30050201054A00L, 7), 1);
        DirectorySession z = new DirectorySession();
        CHECK.same("six bytes", z.feed(0x30050201054AL, 6), 0);
        CHECK.same("one and a malformed one", z.feed(0x0031, 2), 2);
        DirectorySession w = new DirectorySession();
        CHECK.same("a malformed one", w.feed(0x3182, 2), 1);
        DirectorySession v = new DirectorySession();
        v.feed(0x30050201054AL, 6);
        CHECK.same("the end of one, and a whole one", v.feed(0x0030050201054A00L, 8), 2);
        CHECK.same("both are done", v.kept() + " " + v.code(), "0 32");
    }

    private static void connectWhenOpen() {
        CHECK.sentence("Promise 3: Begins a new session in place of the one there is: open, nobody bound, nothing kept."
                + " The output, code() and found(), and the entries stay");
        DirectorySession x = new DirectorySession();
        Wire.ask(x, add("n=a", "a"));
        Wire.ask(x, add("n=b,n=a", "b"));
        Wire.ask(x, Wire.bind(3, "n=a", "k"));
        Wire.ask(x, Wire.search("", 2, 1, Wire.and()));
        String output = Wire.outputHex(x);
        x.feed(0x3010020105L, 5);
        CHECK.same("before", x.open() + " " + x.bound() + " " + x.kept(), "true 0 5");
        x.connect();
        CHECK.same("after", x.open() + " " + x.bound() + " " + x.kept(), "true -1 0");
        CHECK.same("what stays", x.code() + " " + x.found() + " " + x.entries() + " " + x.parent(1), "4 1 2 0");
        CHECK.same("the output stays", Wire.outputHex(x), output);
        x.connect();
        CHECK.same("twice", x.open() + " " + x.bound() + " " + x.kept() + " " + x.code(), "true -1 0 4");
        CHECK.same("a message begins anew", Wire.feed(x, SMALL), 1);
        CHECK.same("and is answered", Wire.outputHex(x), Wire.hex(Wire.result(5, 0x6B, 32)));
    }

    private static void connectWhenClosed() {
        CHECK.sentence("Promise 3: (code() and found() stay.)");
        byte[][] closing = {Wire.message(1, Wire.unbind()), Wire.bytes(0x31)};
        for (byte[] bytes : closing) {
            DirectorySession x = new DirectorySession();
            Wire.ask(x, add("n=a", "a"));
            Wire.ask(x, Wire.search("", 2, 0, Wire.and()));
            Wire.ask(x, Wire.bind(3, "n=zz", ""));
            Wire.feed(x, bytes);
            String output = Wire.outputHex(x);
            x.connect();
            CHECK.same("open again", x.open(), true);
            CHECK.same("what stays", x.code() + " " + x.found() + " " + x.entries(), "49 1 1");
            CHECK.same("the output stays", Wire.outputHex(x), output);
            CHECK.same("it is spoken to again", Wire.feed(x, SMALL), 1);
        }
        DirectorySession y = new DirectorySession();
        y.connect();
        CHECK.same("on a new object", y.open() + " " + y.code() + " " + y.found() + " " + y.length(), "true -1 0 0");
    }

    private static void open() {
        CHECK.sentence("Promise 4: Whether the session is open");
        DirectorySession x = new DirectorySession();
        CHECK.same("new", x.open(), true);
        Wire.feed(x, SMALL);
        CHECK.same("after a request that is refused", x.open(), true);
        x.feed(0x30, 1);
        CHECK.same("while bytes are kept", x.open(), true);
        x.feed(0x80, 1);
        CHECK.same("malformed", x.open(), false);
        Wire.feed(x, SMALL);
        CHECK.same("still closed", x.open(), false);
        x.connect();
        CHECK.same("connected", x.open(), true);
        Wire.feed(x, Wire.message(1, Wire.unbind()));
        CHECK.same("unbound", x.open(), false);
    }

    private static void kept() {
        CHECK.sentence("Promise 5: How many bytes are kept");
        DirectorySession x = new DirectorySession();
        byte[] longest = Wire.messageOfSize(150);
        for (int k = 0; k < longest.length; k++) {
            CHECK.same("kept before byte " + k, x.kept(), k);
            x.feed(longest[k], 1);
        }
        CHECK.same("kept at the end", x.kept(), 0);
        x.feed(0x30050201054A00L << 8 | 0x30, 8);
        CHECK.same("one byte of the next", x.kept(), 1);
        x.feed(0x80, 1);
        CHECK.same("malformed", x.kept(), 0);
        x.feed(0x30, 1);
        CHECK.same("closed", x.kept(), 0);
    }

    private static void bound() {
        CHECK.sentence("Promise 6: The number of the entry, in the order of the entries that are there now (from 0);"
                + " -1 when nobody is");
        DirectorySession x = new DirectorySession();
        CHECK.same("nobody", x.bound(), -1);
        for (int k = 0; k < 12; k++) {
            Wire.ask(x, add("n=" + k, "" + k));
        }
        for (int k : new int[] {0, 11, 5}) {
            Wire.ask(x, Wire.bind(3, "n=" + k, "k"));
            CHECK.same("bound " + k, x.bound(), k);
        }
        Wire.ask(x, Wire.delete("n=6"));
        CHECK.same("one behind it goes", x.bound(), 5);
        Wire.ask(x, Wire.delete("n=0"));
        CHECK.same("one before it goes", x.bound(), 4);
        Wire.ask(x, add("n=0", "0"));
        CHECK.same("one comes", x.bound(), 4);
        Wire.ask(x, Wire.bind(3, "n=0", "k"));
        CHECK.same("the one that came is last", x.bound(), 10);
        Wire.ask(x, Wire.delete("n=0"));
        CHECK.same("it goes", x.bound(), -1);
    }

    private static void code() {
        CHECK.sentence("Promise 7: The code of the latest answer; -1 before the first one."
                + " (UNBIND and a malformed message leave it as it is.)");
        DirectorySession x = new DirectorySession();
        CHECK.same("before", x.code(), -1);
        x.feed(0x31, 1);
        CHECK.same("malformed before the first", x.code(), -1);
        x.connect();
        Wire.feed(x, Wire.message(1, Wire.unbind()));
        CHECK.same("unbind before the first", x.code(), -1);
        x.connect();
        Wire.feed(x, SMALL);
        CHECK.same("the first", x.code(), 32);
        x.feed(0x3005020105L, 5);
        CHECK.same("while a message comes", x.code(), 32);
        x.feed(0x4200, 2);
        CHECK.same("unbind", x.code(), 32);
        x.connect();
        x.feed(0x3080, 2);
        CHECK.same("malformed", x.code(), 32);
        x.connect();
        Wire.feed(x, Wire.join(SMALL, Wire.message(1, Wire.bind(3, "", ""))));
        CHECK.same("the latter one of two", x.code(), 0);
    }

    private static void found() {
        CHECK.sentence("Promise 8: How many entries the latest search brought out (0 with the codes 34 and 32);"
                + " 0 before the first one");
        DirectorySession x = new DirectorySession();
        CHECK.same("before", x.found(), 0);
        for (int k = 0; k < 12; k++) {
            Wire.ask(x, add("n=" + k, "" + k));
        }
        CHECK.same("before the first search", x.found(), 0);
        Wire.ask(x, Wire.search("", 2, 0, Wire.and()));
        CHECK.same("all", x.found(), 12);
        Wire.feed(x, SMALL);
        CHECK.same("another request leaves it", x.found(), 12);
        Wire.ask(x, Wire.search("n", 2, 0, Wire.and()));
        CHECK.same("34", x.code() + " " + x.found(), "34 0");
        Wire.ask(x, Wire.search("", 2, 5, Wire.and()));
        CHECK.same("4", x.code() + " " + x.found(), "4 5");
        Wire.ask(x, Wire.search("n=zz", 2, 0, Wire.and()));
        CHECK.same("32", x.code() + " " + x.found(), "32 0");
        Wire.ask(x, Wire.search("n=3", 2, 0, Wire.and()));
        CHECK.same("one", x.found(), 1);
        Wire.ask(x, Wire.search("n=3", 2, 0, Wire.or()));
        CHECK.same("none", x.code() + " " + x.found(), "0 0");
        Wire.ask(x, Wire.search("", 2, 2, Wire.and()));
        Wire.feed(x, Wire.message(1, Wire.search("", 3, 0, Wire.and())));
        CHECK.same("a malformed one leaves it", x.found(), 2);
    }

    private static void length() {
        CHECK.sentence("Promise 9: How many bytes the output has");
        DirectorySession x = new DirectorySession();
        CHECK.same("before", x.length(), 0);
        Wire.ask(x, 127, Wire.delete(""));
        CHECK.same("an answer", x.length(), 14);
        Wire.ask(x, 128, Wire.delete(""));
        CHECK.same("an answer with a longer ID", x.length(), 15);
        Wire.ask(x, add("n=a", "a"));
        Wire.ask(x, Wire.search("", 2, 0, Wire.and()));
        CHECK.same("an entry and the answer", x.length(), Wire.found(1, "n=a", Wire.attribute("o", "g", "x"),
                Wire.attribute("n", "a"), Wire.attribute("s", "k")).length + 14);
        x.feed(0x31, 1);
        CHECK.same("the notice", x.length(), 14);
        x.connect();
        Wire.feed(x, Wire.message(1, Wire.unbind()));
        CHECK.same("an unbind", x.length(), 0);
    }

    private static void output() {
        CHECK.sentence("Promise 10: The bytes 8 * k to 8 * k + 7 of the output, the first one highest;"
                + " bytes that are not there are 0");
        for (int extra = 0; extra < 8; extra++) {
            DirectorySession x = new DirectorySession();
            String six = "abcdefgh".substring(0, Math.max(1, Math.min(6, extra)));
            String more = extra > 6 ? "q".repeat(extra - 5) : "q";
            Wire.ask(x, Wire.add("n=" + six, Wire.attribute("o", "g"), Wire.attribute("n", six),
                    Wire.attribute("d", more)));
            Wire.ask(x, Wire.search("", 2, 0, Wire.and()));
            byte[] due = Wire.join(Wire.found(1, "n=" + six, Wire.attribute("o", "g"), Wire.attribute("n", six),
                    Wire.attribute("d", more)), Wire.result(1, 0x65, 0));
            CHECK.same("length", x.length(), due.length);
            for (int k = 0; k <= due.length / 8 + 2; k++) {
                long eight = 0;
                for (int j = 8 * k; j < 8 * k + 8; j++) {
                    eight = eight << 8 | (j < due.length ? due[j] & 0xFF : 0);
                }
                CHECK.same("output " + k + " of " + due.length, x.output(k), eight);
            }
        }
        DirectorySession x = new DirectorySession();
        Wire.ask(x, Wire.bind(2, "", ""));
        Wire.ask(x, Wire.add("n=a", Wire.attribute("o", "g"), Wire.attribute("n", "a"), Wire.attribute("d", "~~~~~~")));
        Wire.ask(x, Wire.search("", 2, 0, Wire.and()));
        Wire.feed(x, SMALL);
        CHECK.same("nothing of a longer one before", x.output(1), 0x0120040004000000L);
        CHECK.same("nothing behind it", x.output(2), 0L);
        Wire.feed(x, Wire.message(1, Wire.unbind()));
        CHECK.same("nothing of the one before an unbind", x.output(0), 0L);
    }

    private static void outputOutside() {
        CHECK.sentence("Promise 10: 0 when k is below 0");
        DirectorySession x = new DirectorySession();
        for (int k = 0; k < 12; k++) {
            Wire.ask(x, add("n=" + k, "" + k));
        }
        Wire.ask(x, Wire.search("", 2, 0, Wire.and()));
        int last = (x.length() - 1) / 8;
        CHECK.holds("the last one is there", x.output(last) != 0L);
        CHECK.same("the one behind the last", x.output(last + 1), 0L);
        int[] outside = {-1, -2, -8, -100, Integer.MIN_VALUE, Integer.MIN_VALUE + 1, -(1 << 29), -(1 << 28),
            1 << 29, (1 << 29) + 1, 1 << 28, (1 << 28) + 1, 1 << 30, Integer.MAX_VALUE, 1000, 1 << 16};
        for (int k : outside) {
            CHECK.same("output " + k, x.output(k), 0L);
        }
    }

    private static void entries() {
        CHECK.sentence("Promise 11: How many entries there are");
        DirectorySession x = new DirectorySession();
        for (int k = 0; k < 13; k++) {
            CHECK.same("after " + k, x.entries(), k);
            Wire.ask(x, add("n=" + k, "" + k));
        }
        CHECK.same("no more than twelve", x.entries(), 12);
        for (int k = 0; k < 12; k++) {
            Wire.ask(x, Wire.delete("n=" + k));
            CHECK.same("after " + k + " went", x.entries(), 11 - k);
        }
        Wire.ask(x, Wire.delete("n=0"));
        CHECK.same("none", x.entries(), 0);
    }

    private static void parent() {
        CHECK.sentence("Promise 12: The place of the parent of entry e; -1 when it is the root;"
                + " -2 when there is no entry e");
        DirectorySession x = new DirectorySession();
        Wire.ask(x, add("n=z", "z"));
        Wire.ask(x, add("n=a", "a"));
        Wire.ask(x, add("n=b,n=a", "b"));
        Wire.ask(x, add("n=c,n=b,n=a", "c"));
        Wire.ask(x, add("n=d,n=z", "d"));
        int[] due = {-1, -1, 1, 2, 0};
        for (int e = 0; e < 5; e++) {
            CHECK.same("parent " + e, x.parent(e), due[e]);
        }
        CHECK.same("below 0", x.parent(-1), -2);
        CHECK.same("just behind", x.parent(5), -2);
        for (int e : FAR) {
            CHECK.same("parent " + e, x.parent(e), -2);
        }
        Wire.ask(x, Wire.delete("n=d,n=z"));
        CHECK.same("one that went", x.parent(4), -2);
        Wire.ask(x, Wire.delete("n=z"));
        CHECK.same("moved", x.parent(0) + " " + x.parent(1) + " " + x.parent(2) + " " + x.parent(3), "-1 0 1 -2");
    }

    private static void values() {
        CHECK.sentence("Promise 13: How many values entry e has of the type with the number t;"
                + " -1 when there is no entry e or no such t");
        DirectorySession x = new DirectorySession();
        Wire.ask(x, Wire.add("n=a", Wire.attribute("o", "g", "x"), Wire.attribute("n", "a"),
                Wire.attribute("d", "1", "2", "3"), Wire.attribute("s", "k")));
        int[] due = {2, 1, 3, 0, 1};
        for (int t = 0; t < 5; t++) {
            CHECK.same("values of " + t, x.values(0, t), due[t]);
            CHECK.same("no entry 1", x.values(1, t), -1);
            CHECK.same("no entry -1", x.values(-1, t), -1);
        }
        CHECK.same("t -1", x.values(0, -1), -1);
        CHECK.same("t 5", x.values(0, 5), -1);
        for (int far : FAR) {
            CHECK.same("entry " + far, x.values(far, 2), -1);
            CHECK.same("t " + far, x.values(0, far), -1);
        }
        Wire.ask(x, Wire.delete("n=a"));
        CHECK.same("an entry that went", x.values(0, 2), -1);
    }

    private static void value() {
        CHECK.sentence("Promise 14: Byte j (from 0) of value k (from 0) of entry e's type with the number t,"
                + " as it was given; -1 when there is none");
        DirectorySession x = new DirectorySession();
        Wire.ask(x, Wire.add("n=a", Wire.attribute("o", "X", "G"), Wire.attribute("n", " A"),
                Wire.attribute("d", "abcdef", "Q", " z Z "), Wire.attribute("i", "-9999")));
        String[][] all = {{"X", "G"}, {" A"}, {"abcdef", "Q", " z Z "}, {"-9999"}, {}};
        for (int t = 0; t < 5; t++) {
            for (int k = -1; k <= 3; k++) {
                for (int j = -1; j <= 7; j++) {
                    boolean there = k >= 0 && k < all[t].length && j >= 0 && j < all[t][k].length();
                    CHECK.same("value 0 " + t + " " + k + " " + j, x.value(0, t, k, j),
                            there ? (int) all[t][k].charAt(j) : -1);
                }
            }
        }
        for (int far : new int[] {-1, 5, 6, 1 << 29, Integer.MAX_VALUE, Integer.MIN_VALUE}) {
            CHECK.same("entry " + far, x.value(far, 2, 0, 0), -1);
            CHECK.same("type " + far, x.value(0, far, 0, 0), -1);
            CHECK.same("value " + far, x.value(0, 2, far, 0), -1);
            CHECK.same("byte " + far, x.value(0, 2, 1, far), -1);
        }
        CHECK.same("entry 1", x.value(1, 2, 0, 0), -1);
        Wire.ask(x, Wire.delete("n=a"));
        CHECK.same("an entry that went", x.value(0, 2, 0, 0), -1);
    }

    private static void twoObjects() {
        CHECK.sentence("A new object has nothing of another one");
        DirectorySession x = new DirectorySession();
        DirectorySession y = new DirectorySession();
        Wire.ask(x, add("n=a", "a"));
        Wire.ask(x, Wire.bind(3, "n=a", "k"));
        x.feed(0x3005, 2);
        CHECK.same("the other one", y.entries() + " " + y.bound() + " " + y.kept() + " " + y.code() + " "
                + y.length(), "0 -1 0 -1 0");
        Wire.ask(y, add("n=b", "b"));
        CHECK.same("both of them", Wire.valueTexts(x, 0, 1) + Wire.valueTexts(y, 0, 1), "ab");
    }

    private static void used512Times() {
        CHECK.sentence("An object is used for at most 512 calls after it has been made");
        DirectorySession x = new DirectorySession();
        int calls = 0;
        for (int k = 0; calls < 510; k++) {
            x.feed(0x30050201054AL, 6);
            CHECK.same("message " + k, x.feed(0x00, 1), 1);
            calls += 2;
        }
        x.feed(0x30050201054AL, 6);
        CHECK.same("call 512", x.feed(0x00, 1), 1);
    }
}
