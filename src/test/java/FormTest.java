/** Promise 2: which whole messages are of the form, request for request. */
public final class FormTest {
    private static final Check CHECK = new Check();
    private static final String THIRTY = "x".repeat(30);
    private static final byte[] NAME = Wire.text("n=a");
    private static final byte[] TYPE = Wire.text("n");
    private static final byte[] VALUE = Wire.text("a");
    private static final byte[] MORE = Wire.text("");

    public static void main(String[] args) {
        wholeContent();
        bind();
        unbind();
        delete();
        compare();
        add();
        modify();
        rename();
        search();
        filters();
        filterCountAndDepth();
        innerLengths();
        CHECK.finish();
    }

    private static void good(String what, byte[] request) {
        DirectorySession x = new DirectorySession();
        byte[] whole = Wire.message(1, request);
        CHECK.same(what + " is done", Wire.feed(x, whole), 1);
        CHECK.same(what + " is of the form", x.open(), true);
    }

    private static void bad(String what, byte[] request) {
        badMessage(what, Wire.message(1, request));
    }

    private static void badMessage(String what, byte[] whole) {
        DirectorySession x = new DirectorySession();
        CHECK.same(what + " is done", Wire.feed(x, whole), 1);
        CHECK.same(what + " is malformed", x.open(), false);
        CHECK.same(what + " brings the notice", x.length(), 14);
        CHECK.same(what + " has no code", x.code(), -1);
    }

    private static void wholeContent() {
        badMessage("an ID alone", Wire.tlv(0x30, Wire.integer(1)));
        badMessage("more behind", Wire.tlv(0x30, Wire.integer(1), Wire.delete(""), MORE));
        badMessage("no ID", Wire.tlv(0x30, Wire.delete("")));
        badMessage("a tag alone", Wire.tlv(0x30, Wire.integer(1), Wire.bytes(0x4A)));
        for (int tag = 0; tag < 256; tag++) {
            if (tag != 0x4A && tag != 0x42) {
                bad("request " + tag + " without content", Wire.tlv(tag));
            }
        }
    }

    private static void bind() {
        byte[] version = Wire.integer(3);
        byte[] secret = Wire.tlv(0x80, Wire.latin("k"));
        good("bind", Wire.tlv(0x60, version, NAME, secret));
        good("bind, version below 0", Wire.tlv(0x60, Wire.integer(-30000), NAME, secret));
        good("bind with 30 and 30", Wire.bind(3, THIRTY, THIRTY));
        bad("bind, name of 31", Wire.bind(3, THIRTY + "x", ""));
        bad("bind, secret of 31", Wire.bind(3, "", THIRTY + "x"));
        bad("bind, no secret", Wire.tlv(0x60, version, NAME));
        bad("bind, secret as text", Wire.tlv(0x60, version, NAME, VALUE));
        bad("bind, more", Wire.tlv(0x60, version, NAME, secret, MORE));
        bad("bind, no version", Wire.tlv(0x60, NAME, secret));
        bad("bind, empty version", Wire.tlv(0x60, Wire.tlv(2), NAME, secret));
        bad("bind, version of 3 bytes", Wire.tlv(0x60, Wire.tlv(2, Wire.bytes(0, 0, 3)), NAME, secret));
    }

    private static void unbind() {
        bad("unbind with content", Wire.tlv(0x42, Wire.bytes(0)));
        DirectorySession x = new DirectorySession();
        Wire.feed(x, Wire.message(1, Wire.longTlv(0x42)));
        CHECK.same("unbind with the long length", x.length(), 0);
        CHECK.same("unbind with the long length closes", x.open(), false);
    }

    private static void delete() {
        good("delete, 30", Wire.delete(THIRTY));
        good("delete, none", Wire.delete(""));
        bad("delete, 31", Wire.delete(THIRTY + "x"));
    }

    private static void compare() {
        good("compare", Wire.compare("n=a", "n", "a"));
        good("compare, 30s", Wire.compare(THIRTY, THIRTY, THIRTY));
        bad("compare, 31 name", Wire.compare(THIRTY + "x", "n", "a"));
        bad("compare, 31 type", Wire.compare("n=a", THIRTY + "x", "a"));
        bad("compare, 31 value", Wire.compare("n=a", "n", THIRTY + "x"));
        bad("compare, no pair", Wire.tlv(0x6E, NAME));
        bad("compare, no value", Wire.tlv(0x6E, NAME, Wire.tlv(0x30, TYPE)));
        bad("compare, more in the pair", Wire.tlv(0x6E, NAME, Wire.tlv(0x30, TYPE, VALUE, MORE)));
        bad("compare, more", Wire.tlv(0x6E, NAME, Wire.tlv(0x30, TYPE, VALUE), MORE));
        bad("compare, another tag", Wire.tlv(0x6E, NAME, Wire.tlv(0x31, TYPE, VALUE)));
        bad("compare, a pair that ends early",
                Wire.tlv(0x6E, NAME, Wire.bytes(0x30, 3), TYPE, VALUE));
        bad("compare, a pair that goes beyond",
                Wire.tlv(0x6E, NAME, Wire.bytes(0x30, 7), TYPE, VALUE));
    }

    private static void add() {
        String[] nine = {"1", "2", "3", "4", "5", "6", "7", "8", "9"};
        String[] eight = java.util.Arrays.copyOf(nine, 8);
        good("add, no attributes", Wire.add("n=a"));
        good("add, eight values", Wire.add("n=a", Wire.attribute("d", eight)));
        bad("add, nine values", Wire.add("n=a", Wire.attribute("d", nine)));
        bad("add, no values", Wire.add("n=a", Wire.attribute("d")));
        bad("add, no values second", Wire.add("n=a", Wire.attribute("n", "a"), Wire.attribute("d")));
        good("add, a value of 30", Wire.add("n=a", Wire.attribute("d", THIRTY)));
        bad("add, a value of 31", Wire.add("n=a", Wire.attribute("d", THIRTY + "x")));
        bad("add, no list", Wire.tlv(0x68, NAME));
        bad("add, more", Wire.tlv(0x68, NAME, Wire.tlv(0x30), MORE));
        bad("add, a bare text", Wire.add("n=a", TYPE));
        bad("add, no row of values", Wire.add("n=a", Wire.tlv(0x30, TYPE)));
        bad("add, a text for values", Wire.add("n=a", Wire.tlv(0x30, TYPE, VALUE)));
        bad("add, more in an attribute",
                Wire.add("n=a", Wire.tlv(0x30, TYPE, Wire.texts("a"), MORE)));
        bad("add, no text among values",
                Wire.add("n=a", Wire.tlv(0x30, TYPE, Wire.tlv(0x31, Wire.integer(1)))));
        byte[] small = Wire.attribute("", "");
        byte[] many = new byte[0];
        for (int k = 0; k < 17; k++) {
            many = Wire.join(many, small);
        }
        good("add, seventeen attributes", Wire.tlv(0x68, MORE, Wire.tlv(0x30, many)));
    }

    private static void modify() {
        byte[] values = Wire.texts("a");
        for (int change = 0; change < 256; change++) {
            byte[] request = Wire.modify("n=a", change, "n", "a");
            if (change <= 2) {
                good("modify " + change, request);
            } else {
                bad("modify " + change, request);
            }
        }
        good("modify, no values", Wire.modify("n=a", 2, "n"));
        good("modify, eight", Wire.modify("n=a", 0, "n", "", "", "", "", "", "", "", ""));
        bad("modify, nine", Wire.modify("n=a", 0, "n", "", "", "", "", "", "", "", "", ""));
        bad("modify, no row of values", Wire.tlv(0x66, NAME, Wire.choice(0), TYPE));
        bad("modify, more", Wire.tlv(0x66, NAME, Wire.choice(0), TYPE, values, MORE));
        bad("modify, a choice of none", Wire.tlv(0x66, NAME, Wire.tlv(0x0A), TYPE, values));
        bad("modify, a choice of two",
                Wire.tlv(0x66, NAME, Wire.tlv(0x0A, Wire.bytes(0, 0)), TYPE, values));
        bad("modify, an int for the choice", Wire.tlv(0x66, NAME, Wire.integer(0), TYPE, values));
    }

    private static void rename() {
        for (int flag : new int[] {0, 1, 2, 0x80, 0xFF}) {
            good("rename, flag " + flag, Wire.rename("n=a", "n=b", flag));
        }
        bad("rename, no flag", Wire.tlv(0x6C, NAME, NAME));
        bad("rename, an empty flag", Wire.tlv(0x6C, NAME, NAME, Wire.tlv(1)));
        bad("rename, a long flag", Wire.tlv(0x6C, NAME, NAME, Wire.tlv(1, Wire.bytes(0, 0))));
        bad("rename, another flag", Wire.tlv(0x6C, NAME, NAME, Wire.choice(1)));
        bad("rename, more", Wire.tlv(0x6C, NAME, NAME, Wire.flag(1), MORE));
        bad("rename, part of 31", Wire.rename("n=a", THIRTY + "x", 1));
    }

    private static void search() {
        byte[] all = Wire.and();
        for (int scope = 0; scope < 256; scope++) {
            if (scope <= 2) {
                good("search " + scope, Wire.search("", scope, 0, all));
            } else {
                bad("search " + scope, Wire.search("", scope, 0, all));
            }
        }
        good("search, limit 32767", Wire.search("", 0, 32767, all));
        bad("search, limit -1", Wire.search("", 0, -1, all));
        bad("search, limit -32768", Wire.search("", 0, -32768, all));
        bad("search, no filter", Wire.tlv(0x63, MORE, Wire.choice(0), Wire.integer(0)));
        bad("search, two filters", Wire.search("", 0, 0, Wire.join(all, all)));
        bad("search, base of 31", Wire.search(THIRTY + "x", 0, 0, all));
    }

    private static void filters() {
        for (int tag = 0; tag < 256; tag++) {
            boolean empty = tag == 0xA0 || tag == 0xA1 || tag == 0x87;
            boolean pair = tag == 0xA3 || tag == 0xA5 || tag == 0xA6 || tag == 0x87;
            if (empty) {
                good("an empty filter " + tag, Wire.search("", 2, 0, Wire.tlv(tag)));
            } else {
                bad("an empty filter " + tag, Wire.search("", 2, 0, Wire.tlv(tag)));
            }
            byte[] two = Wire.search("", 2, 0, Wire.tlv(tag, TYPE, VALUE));
            if (pair) {
                good("two texts in a filter " + tag, two);
            } else {
                bad("two texts in a filter " + tag, two);
            }
        }
        bad("not, with two", Wire.search("", 2, 0, Wire.tlv(0xA2, Wire.and(), Wire.and())));
        bad("equal, with one", Wire.search("", 2, 0, Wire.tlv(0xA3, TYPE)));
        bad("equal, with three", Wire.search("", 2, 0, Wire.tlv(0xA3, TYPE, VALUE, MORE)));
        bad("equal, type of 31", Wire.search("", 2, 0, Wire.equal(THIRTY + "x", "a")));
        bad("equal, value of 31", Wire.search("", 2, 0, Wire.equal("n", THIRTY + "x")));
        good("present, 30", Wire.search("", 2, 0, Wire.present(THIRTY)));
        bad("present, 31", Wire.search("", 2, 0, Wire.present(THIRTY + "x")));
        bad("a filter inside that is none", Wire.search("", 2, 0, Wire.or(Wire.and(), MORE)));
    }

    private static void filterCountAndDepth() {
        byte[] eleven = new byte[0];
        for (int k = 0; k < 11; k++) {
            eleven = Wire.join(eleven, Wire.present("n"));
        }
        good("twelve filters", Wire.search("", 2, 0, Wire.and(eleven)));
        bad("thirteen filters", Wire.search("", 2, 0, Wire.and(eleven, Wire.and())));
        good("twelve, in groups", Wire.search("", 2, 0, Wire.and(Wire.or(Wire.and(), Wire.and(),
                Wire.and(), Wire.and()), Wire.or(Wire.and(), Wire.and(), Wire.and()),
                Wire.or(Wire.and()))));
        bad("thirteen, in groups", Wire.search("", 2, 0, Wire.and(Wire.or(Wire.and(), Wire.and(),
                Wire.and(), Wire.and()), Wire.or(Wire.and(), Wire.and(), Wire.and()),
                Wire.or(Wire.and(), Wire.and()))));
        byte[] deep = Wire.present("n");
        for (int depth = 1; depth <= 10; depth++) {
            byte[] inside = Wire.search("", 2, 0, deep);
            if (depth <= 6) {
                good("depth " + depth, inside);
            } else {
                bad("depth " + depth, inside);
            }
            deep = depth % 2 == 0 ? Wire.not(deep) : Wire.and(deep);
        }
    }

    private static void innerLengths() {
        byte[] longName = Wire.longTlv(4, Wire.latin("n=a"));
        good("long lengths inside", Wire.longTlv(0x66, longName, Wire.longTlv(0x0A, Wire.bytes(1)),
                Wire.longTlv(4, Wire.latin("n")), Wire.longTlv(0x31, Wire.longTlv(4))));
        good("long lengths in filters", Wire.longTlv(0x63, longName, Wire.longTlv(0x0A, Wire.bytes(1)),
                Wire.longTlv(2, Wire.bytes(0, 1)), Wire.longTlv(0xA2, Wire.longTlv(0x87))));
        for (int length : new int[] {0x80, 0x82, 0x84, 0xFF}) {
            bad("inner length " + length, Wire.tlv(0x6C, Wire.bytes(4, length), NAME, Wire.flag(0)));
        }
        byte[] long128 = Wire.join(MORE, Wire.longTlv(0x30, Wire.attribute("d", THIRTY, THIRTY),
                Wire.attribute("d", THIRTY, "x".repeat(11))));
        CHECK.same("128 bytes", long128.length, 128);
        good("length 128 in two bytes", Wire.join(Wire.bytes(0x68, 0x81, 128), long128));
        bad("length 128 in one byte", Wire.join(Wire.bytes(0x68, 0x80), long128));
        bad("a length that is cut off", Wire.tlv(0x63, NAME, Wire.choice(0), Wire.integer(0),
                Wire.bytes(0xA0, 0x81)));
        bad("a text that goes beyond", Wire.tlv(0x6C, NAME, Wire.bytes(4, 9, 'n'), Wire.flag(0)));
    }
}
