import java.util.LinkedHashMap;
import java.util.Map;
import java.util.function.Function;

/** The boundary cases of a message's form, sentence by sentence. */
public final class FormEdgesTest {
    private static final Check CHECK = new Check();
    private static final String NOTICE = "30 0C 02 01 00 78 07 0A 01 02 04 00 04 00";
    private static final byte[] EMPTY = new byte[0];
    private static final byte[] NAME = Wire.text("n=a");
    private static final byte[] TYPE = Wire.text("n");
    private static final byte[] VALUE = Wire.text("a");
    private static final byte[] VALUES = Wire.texts("a");
    private static final byte[] TRUE = Wire.and();

    public static void main(String[] args) {
        idAndRequestAndNothingBehind();
        endsWhereTheOneAroundEnds();
        intHasOneOrTwoBytes();
        intHasASign();
        idFrom1To32767();
        textOfAtMost30();
        aLongTextThatLooksLikeParts();
        choiceHasOneByte();
        flagHasOneByte();
        valuesOfAtMost8();
        bind();
        unbind();
        delete();
        compare();
        addOfAnyNumber();
        addWithAtLeastOneValue();
        modify();
        rename();
        search();
        limitNotBelow0();
        andAndOr();
        not();
        pairs();
        present();
        otherFilters();
        atMost12Filters();
        atMost6Deep();
        CHECK.finish();
    }

    private static void formed(String what, byte[] request, int code) {
        wholeFormed(what, Wire.message(1, request), code);
    }

    private static void wholeFormed(String what, byte[] whole, int code) {
        DirectorySession x = new DirectorySession();
        CHECK.same(what + " is done", Wire.feed(x, whole), 1);
        CHECK.same(what + " is of the form", x.open(), true);
        CHECK.same(what + " has a code", x.code(), code);
    }

    private static void malformed(String what, byte[] request) {
        wholeMalformed(what, Wire.message(1, request));
    }

    private static void wholeMalformed(String what, byte[] whole) {
        DirectorySession x = new DirectorySession();
        CHECK.same(what + " is done", Wire.feed(x, whole), 1);
        CHECK.same(what + " is not of the form", x.open(), false);
        CHECK.same(what + " brings the notice", Wire.outputHex(x), NOTICE);
        CHECK.same(what + " has no code", x.code(), -1);
    }

    /** Each part must be there, in its place, and nothing between or behind them. */
    private static void onlyThese(String what, int tag, byte[]... parts) {
        byte[] stray = Wire.text("");
        for (int k = 0; k <= parts.length; k++) {
            byte[] before = Wire.join(java.util.Arrays.copyOfRange(parts, 0, k));
            byte[] behind = Wire.join(java.util.Arrays.copyOfRange(parts, k, parts.length));
            malformed(what + " with more at part " + k, Wire.tlv(tag, before, stray, behind));
            malformed(what + " with a lone byte at part " + k,
                    Wire.tlv(tag, before, Wire.bytes(0xEE), behind));
            if (k < parts.length) {
                byte[] rest = Wire.join(java.util.Arrays.copyOfRange(parts, k + 1, parts.length));
                malformed(what + " without part " + k, Wire.tlv(tag, before, rest));
                byte[] otherTag = parts[k].clone();
                otherTag[0] ^= 0x40;
                malformed(what + " with another tag at part " + k,
                        Wire.tlv(tag, before, otherTag, rest));
            }
        }
    }

    private static void idAndRequestAndNothingBehind() {
        CHECK.sentence("a message's content: an ID, and a request, and nothing behind it");
        byte[] id = Wire.integer(1);
        byte[] request = Wire.delete("n=a");
        wholeFormed("both", Wire.tlv(0x30, id, request), 32);
        wholeMalformed("no ID", Wire.tlv(0x30, request));
        wholeMalformed("no request", Wire.tlv(0x30, id));
        wholeMalformed("neither", Wire.tlv(0x30));
        wholeMalformed("the request first", Wire.tlv(0x30, request, id));
        wholeMalformed("a byte behind", Wire.tlv(0x30, id, request, Wire.bytes(0)));
        wholeMalformed("a text behind", Wire.tlv(0x30, id, request, Wire.text("")));
        wholeMalformed("two requests", Wire.tlv(0x30, id, request, request));
        wholeMalformed("two IDs", Wire.tlv(0x30, id, id, request));
        for (int tag = 0; tag <= 255; tag++) {
            if (tag != 0x42 && tag != 0x4A) {
                malformed("request " + tag + " without content", Wire.tlv(tag));
            }
        }
    }

    private static void endsWhereTheOneAroundEnds() {
        CHECK.sentence("Every TLV in it must end just where the content of the one around it ends,"
                + " or before another part that is named");
        byte[] id = Wire.integer(1);
        for (int length = 0; length <= 12; length++) {
            byte[] deleted = Wire.join(id, Wire.bytes(0x4A, length), Wire.latin("n=a"));
            judged("a request", length == 3, Wire.tlv(0x30, deleted), 32);
            byte[] pair = Wire.join(NAME, Wire.bytes(0x30, length), TYPE, VALUE);
            judged("a pair", length == 6, Wire.message(1, Wire.tlv(0x6E, pair)), 32);
            byte[] list = Wire.join(NAME, Wire.bytes(0x30, length), Wire.attribute("x", "a"));
            judged("a list", length == 10, Wire.message(1, Wire.tlv(0x68, list)), 17);
            byte[] attribute = Wire.join(Wire.bytes(0x30, length), TYPE, Wire.texts("a"));
            judged("an attribute", length == 8,
                    Wire.message(1, Wire.tlv(0x68, Wire.text("a"), Wire.tlv(0x30, attribute))), 34);
            byte[] values = Wire.join(TYPE, Wire.bytes(0x31, length), VALUE, VALUE);
            judged("values", length == 6, Wire.message(1,
                    Wire.tlv(0x68, Wire.text("a"), Wire.tlv(0x30, Wire.tlv(0x30, values)))), 34);
            byte[] filters = Wire.join(Wire.bytes(0xA0, length), Wire.present("n"), Wire.present("n"));
            judged("a filter", length == 6, Wire.message(1, Wire.search("", 2, 0, filters)), 0);
            byte[] negated = Wire.join(Wire.bytes(0xA2, length), Wire.present("n"));
            judged("a filter in NOT", length == 3, Wire.message(1, Wire.search("", 2, 0, negated)), 0);
            byte[] equal = Wire.join(Wire.bytes(0xA3, length), TYPE, VALUE);
            judged("a filter with texts", length == 6,
                    Wire.message(1, Wire.search("", 2, 0, equal)), 0);
            byte[] text = Wire.join(Wire.bytes(0x04, length), Wire.latin("n=a"), NAME, Wire.flag(0));
            judged("a text", length == 3, Wire.message(1, Wire.tlv(0x6C, text)), 32);
        }
    }

    private static void judged(String what, boolean right, byte[] whole, int code) {
        if (right) {
            wholeFormed(what, whole, code);
        } else {
            wholeMalformed(what, whole);
        }
    }

    private static void intHasOneOrTwoBytes() {
        CHECK.sentence("INT is a TLV 0x02 with one or two bytes");
        Map<String, Function<byte[], byte[]>> places = new LinkedHashMap<>();
        places.put("the ID", in -> Wire.tlv(0x30, in, Wire.delete("")));
        places.put("the version", in -> Wire.message(1,
                Wire.tlv(0x60, in, Wire.text(""), Wire.tlv(0x80))));
        places.put("the limit", in -> Wire.message(1,
                Wire.tlv(0x63, Wire.text(""), Wire.choice(0), in, TRUE)));
        places.forEach((what, place) -> {
            int code = what.equals("the ID") ? 32 : 0;
            wholeMalformed(what + " of no byte", place.apply(Wire.tlv(2)));
            wholeFormed(what + " of one byte", place.apply(Wire.tlv(2, Wire.bytes(3))), code);
            wholeFormed(what + " of two bytes", place.apply(Wire.tlv(2, Wire.bytes(0, 3))), code);
            wholeMalformed(what + " of three bytes", place.apply(Wire.tlv(2, Wire.bytes(0, 0, 3))));
            wholeMalformed(what + " of four bytes", place.apply(Wire.tlv(2, Wire.bytes(0, 0, 0, 3))));
            wholeMalformed(what + " with another tag", place.apply(Wire.tlv(0x0A, Wire.bytes(3))));
            wholeFormed(what + " with a long length", place.apply(Wire.longTlv(2, Wire.bytes(3))), code);
        });
    }

    private static void intHasASign() {
        CHECK.sentence("a number with sign, the high byte first (it need not be the shortest form)");
        int[][] notThree = {{0x83}, {0xFD}, {0x02}, {0x04}, {0x00}, {0x7F}, {0x80}, {0xFF}, {0x03, 0x00},
            {0x01, 0x03}, {0xFF, 0x03}, {0x80, 0x03}, {0x00, 0x83}, {0xFF, 0xFD}, {0x00, 0x00}};
        for (int[] bytes : notThree) {
            byte[] version = Wire.tlv(2, Wire.bytes(bytes));
            formed("a version that is not 3: " + Wire.hex(version),
                    Wire.tlv(0x60, version, Wire.text(""), Wire.tlv(0x80)), 2);
        }
        for (int[] bytes : new int[][] {{0x03}, {0x00, 0x03}}) {
            byte[] version = Wire.tlv(2, Wire.bytes(bytes));
            formed("the version 3: " + Wire.hex(version),
                    Wire.tlv(0x60, version, Wire.text(""), Wire.tlv(0x80)), 0);
        }
    }

    private static void idFrom1To32767() {
        CHECK.sentence("the ID is an INT from 1 to 32767");
        int[][] right = {{0x01}, {0x7F}, {0x00, 0x01}, {0x00, 0x7F}, {0x00, 0x80}, {0x00, 0xFF},
            {0x01, 0x00}, {0x7F, 0xFF}};
        for (int[] bytes : right) {
            DirectorySession x = new DirectorySession();
            byte[] id = Wire.tlv(2, Wire.bytes(bytes));
            Wire.feed(x, Wire.tlv(0x30, id, Wire.delete("")));
            int number = bytes.length == 1 ? bytes[0] : bytes[0] * 256 + bytes[1];
            CHECK.same("ID " + number, Wire.outputHex(x), Wire.hex(Wire.result(number, 0x6B, 32)));
        }
        int[][] wrong = {{0x00}, {0x80}, {0xFF}, {0x00, 0x00}, {0x80, 0x00}, {0x80, 0x01},
            {0xFF, 0xFF}, {0xFF, 0x01}};
        for (int[] bytes : wrong) {
            byte[] id = Wire.tlv(2, Wire.bytes(bytes));
            wholeMalformed("ID " + Wire.hex(id), Wire.tlv(0x30, id, Wire.delete("")));
        }
    }

    private static void textOfAtMost30() {
        CHECK.sentence("TEXT is a TLV 0x04 with at most 30 bytes");
        Map<String, Function<String, byte[]>> places = new LinkedHashMap<>();
        places.put("BIND's name", t -> Wire.bind(2, t, ""));
        places.put("COMPARE's name", t -> Wire.compare(t, "n", "a"));
        places.put("COMPARE's type", t -> Wire.compare("n=a", t, "a"));
        places.put("COMPARE's value", t -> Wire.compare("n=a", "n", t));
        places.put("ADD's name", t -> Wire.add(t));
        places.put("ADD's type", t -> Wire.add("", Wire.attribute(t, "a")));
        places.put("ADD's value", t -> Wire.add("", Wire.attribute("n", t)));
        places.put("ADD's second value", t -> Wire.add("", Wire.attribute("n", "a", t)));
        places.put("MODIFY's name", t -> Wire.modify(t, 0, "n", "a"));
        places.put("MODIFY's type", t -> Wire.modify("n=a", 0, t, "a"));
        places.put("MODIFY's value", t -> Wire.modify("n=a", 0, "n", t));
        places.put("RENAME's name", t -> Wire.rename(t, "n=a", 0));
        places.put("RENAME's part", t -> Wire.rename("n=a", t, 0));
        places.put("SEARCH's base", t -> Wire.search(t, 0, 0, TRUE));
        places.put("EQUAL's type", t -> Wire.search("", 0, 0, Wire.equal(t, "a")));
        places.put("EQUAL's value", t -> Wire.search("", 0, 0, Wire.equal("n", t)));
        places.put("AT LEAST's type", t -> Wire.search("", 0, 0, Wire.atLeast(t, "a")));
        places.put("AT MOST's value", t -> Wire.search("", 0, 0, Wire.atMost("n", t)));
        places.forEach((what, place) -> {
            for (int size : new int[] {0, 1, 29, 30, 31, 32, 60}) {
                DirectorySession x = new DirectorySession();
                CHECK.same(what + " of " + size + " is done",
                        Wire.feed(x, Wire.message(1, place.apply("x".repeat(size)))), 1);
                CHECK.same(what + " of " + size + " is of the form", x.open(), size <= 30);
            }
        });
    }

    private static void aLongTextThatLooksLikeParts() {
        CHECK.sentence("TEXT with at most 30 bytes: what a longer one holds is never read as the parts behind it");
        byte[] tail = Wire.join(Wire.text("x".repeat(26)), Wire.flag(1));
        CHECK.same("bytes in the text", tail.length, 31);
        malformed("RENAME", Wire.tlv(0x6C, Wire.tlv(4, tail)));
        malformed("RENAME's part", Wire.tlv(0x6C, NAME, Wire.tlv(4, tail)));
        byte[] secret = Wire.tlv(0x80, Wire.latin("x".repeat(29)));
        malformed("BIND", Wire.tlv(0x60, Wire.integer(3), Wire.tlv(4, secret)));
        byte[] pair = Wire.tlv(0x30, TYPE, Wire.text("x".repeat(24)));
        malformed("COMPARE", Wire.tlv(0x6E, Wire.tlv(4, pair)));
        malformed("COMPARE's type", Wire.tlv(0x6E, NAME, Wire.tlv(0x30, Wire.tlv(4, Wire.text("x".repeat(29))))));
        byte[] list = Wire.tlv(0x30, Wire.attributesOfSize(29));
        malformed("ADD", Wire.tlv(0x68, Wire.tlv(4, list)));
        byte[] modify = Wire.join(Wire.choice(0), TYPE, Wire.texts("x".repeat(21)));
        malformed("MODIFY", Wire.tlv(0x66, Wire.tlv(4, modify)));
        byte[] search = Wire.join(Wire.choice(0), Wire.integer(0), Wire.present("x".repeat(23)));
        malformed("SEARCH", Wire.tlv(0x63, Wire.tlv(4, search)));
        malformed("EQUAL", Wire.search("", 2, 0, Wire.tlv(0xA3, Wire.tlv(4, Wire.text("x".repeat(29))))));
    }

    private static void choiceHasOneByte() {
        CHECK.sentence("CHOICE is a TLV 0x0A with one byte");
        Function<byte[], byte[]> modify = c -> Wire.tlv(0x66, NAME, c, TYPE, VALUES);
        Function<byte[], byte[]> search = c -> Wire.tlv(0x63, NAME, c, Wire.integer(0), TRUE);
        for (Function<byte[], byte[]> place : java.util.List.of(modify, search)) {
            malformed("a choice of no byte", place.apply(Wire.tlv(0x0A)));
            formed("a choice of one byte", place.apply(Wire.tlv(0x0A, Wire.bytes(1))), 32);
            malformed("a choice of two bytes", place.apply(Wire.tlv(0x0A, Wire.bytes(0, 1))));
            malformed("a choice of two bytes, 1 first", place.apply(Wire.tlv(0x0A, Wire.bytes(1, 0))));
            malformed("a choice with another tag", place.apply(Wire.tlv(0x02, Wire.bytes(1))));
            formed("a choice with a long length", place.apply(Wire.longTlv(0x0A, Wire.bytes(1))), 32);
        }
    }

    private static void flagHasOneByte() {
        CHECK.sentence("FLAG is a TLV 0x01, with one byte (a flag is on when that is not 0)");
        malformed("a flag of no byte", Wire.tlv(0x6C, NAME, NAME, Wire.tlv(1)));
        malformed("a flag of two bytes", Wire.tlv(0x6C, NAME, NAME, Wire.tlv(1, Wire.bytes(0, 1))));
        malformed("a flag with another tag", Wire.tlv(0x6C, NAME, NAME, Wire.choice(1)));
        for (int flag = 0; flag <= 255; flag++) {
            DirectorySession x = new DirectorySession();
            Wire.ask(x, Wire.add("n=a", Wire.attribute("o", "g"), Wire.attribute("n", "a")));
            int code = Wire.ask(x, Wire.rename("n=a", "n=b", flag));
            CHECK.same("flag " + flag, code, flag == 0 ? 19 : 0);
        }
    }

    private static void valuesOfAtMost8() {
        CHECK.sentence("VALUES are a TLV 0x31 with at most 8 texts");
        for (int count = 0; count <= 12; count++) {
            String[] texts = new String[count];
            java.util.Arrays.fill(texts, "");
            byte[] added = Wire.add("a", Wire.attribute("n", texts));
            byte[] modified = Wire.modify("a", 0, "n", texts);
            if (count <= 8) {
                formed("MODIFY with " + count, modified, 34);
            } else {
                malformed("MODIFY with " + count, modified);
                malformed("ADD with " + count, added);
            }
            if (count >= 1 && count <= 8) {
                formed("ADD with " + count, added, 34);
            }
        }
        byte[] number = Wire.tlv(0x31, Wire.integer(1));
        malformed("no text among the values", Wire.tlv(0x66, NAME, Wire.choice(0), TYPE, number));
        malformed("texts in a TLV 0x30",
                Wire.tlv(0x66, NAME, Wire.choice(0), TYPE, Wire.tlv(0x30, VALUE)));
    }

    private static void bind() {
        CHECK.sentence("BIND: INT, the version; TEXT, a name; and a TLV 0x80 with at most 30 bytes");
        byte[] version = Wire.integer(3);
        for (int size : new int[] {0, 1, 29, 30, 31, 32}) {
            byte[] request = Wire.bind(3, "n=a", "x".repeat(size));
            judged("a secret of " + size, size <= 30, Wire.message(1, request), 49);
        }
        onlyThese("BIND", 0x60, version, NAME, Wire.tlv(0x80, Wire.latin("k")));
    }

    private static void unbind() {
        CHECK.sentence("UNBIND: no content");
        malformed("a byte", Wire.tlv(0x42, Wire.bytes(0)));
        malformed("a text", Wire.tlv(0x42, Wire.text("")));
        for (byte[] request : new byte[][] {Wire.tlv(0x42), Wire.longTlv(0x42)}) {
            DirectorySession x = new DirectorySession();
            CHECK.same("it is done", Wire.feed(x, Wire.message(1, request)), 1);
            CHECK.same("it closes", x.open(), false);
            CHECK.same("it brings out nothing", x.length(), 0);
        }
    }

    private static void delete() {
        CHECK.sentence("DELETE: the content is a name, of at most 30 bytes");
        for (int size = 0; size <= 40; size++) {
            byte[] request = Wire.delete("x".repeat(size));
            judged("a name of " + size, size <= 30, Wire.message(1, request), size == 0 ? 32 : 34);
        }
    }

    private static void compare() {
        CHECK.sentence("COMPARE: TEXT, a name; and a TLV 0x30 with TEXT, a type, and TEXT, a value");
        formed("COMPARE", Wire.compare("n=a", "n", "a"), 32);
        onlyThese("COMPARE", 0x6E, NAME, Wire.tlv(0x30, TYPE, VALUE));
        malformed("an empty pair", Wire.tlv(0x6E, NAME, Wire.tlv(0x30)));
        malformed("no value", Wire.tlv(0x6E, NAME, Wire.tlv(0x30, TYPE)));
        malformed("two values", Wire.tlv(0x6E, NAME, Wire.tlv(0x30, TYPE, VALUE, VALUE)));
        malformed("values", Wire.tlv(0x6E, NAME, Wire.tlv(0x30, TYPE, VALUES)));
        malformed("no pair around", Wire.tlv(0x6E, NAME, TYPE, VALUE));
    }

    private static void addOfAnyNumber() {
        CHECK.sentence("ADD: TEXT, a name; and a TLV 0x30 with any number of TLVs 0x30");
        byte[] all = EMPTY;
        for (int count = 0; count <= 17; count++) {
            byte[] request = Wire.tlv(0x68, Wire.text(""), Wire.tlv(0x30, all));
            formed("ADD with " + count, request, count == 0 ? 68 : 17);
            all = Wire.join(all, Wire.attribute("", ""));
        }
        String[] eight = {"", "", "", "", "", "", "", ""};
        byte[] most = EMPTY;
        for (int count = 0; count < 6; count++) {
            most = Wire.join(most, Wire.attribute("", eight));
        }
        formed("ADD with as many values as there is room for",
                Wire.tlv(0x68, Wire.text(""), Wire.tlv(0x30, most)), 17);
        onlyThese("ADD", 0x68, NAME, Wire.tlv(0x30, Wire.attribute("n", "a")));
        malformed("a TLV 0x31 in it", Wire.tlv(0x68, NAME, Wire.tlv(0x30, VALUES)));
        malformed("a good one and a text",
                Wire.tlv(0x68, NAME, Wire.tlv(0x30, Wire.attribute("n", "a"), VALUE)));
    }

    private static void addWithAtLeastOneValue() {
        CHECK.sentence("each with TEXT, a type, and VALUES, at least one");
        byte[] good = Wire.attribute("n", "a");
        byte[] none = Wire.attribute("d");
        formed("one value", Wire.add("", good), 68);
        malformed("no value", Wire.add("", none));
        malformed("no value in the second", Wire.add("", good, none));
        malformed("no value in the first", Wire.add("", none, good));
        malformed("no value, and no type either", Wire.add("", Wire.attribute("x")));
        malformed("no values", Wire.add("", Wire.tlv(0x30, TYPE)));
        malformed("no type", Wire.add("", Wire.tlv(0x30, VALUES)));
        malformed("nothing in it", Wire.add("", Wire.tlv(0x30)));
        malformed("values twice", Wire.add("", Wire.tlv(0x30, TYPE, VALUES, VALUES)));
        malformed("the type last", Wire.add("", Wire.tlv(0x30, VALUES, TYPE)));
    }

    private static void modify() {
        CHECK.sentence("MODIFY: CHOICE 0 add, 1 delete, 2 replace (another is not of the form)");
        for (int choice = 0; choice <= 255; choice++) {
            byte[] request = Wire.modify("n=a", choice, "n", "a");
            judged("choice " + choice, choice <= 2, Wire.message(1, request), 32);
        }
        onlyThese("MODIFY", 0x66, NAME, Wire.choice(0), TYPE, VALUES);
    }

    private static void rename() {
        CHECK.sentence("RENAME: TEXT, a name; TEXT, the new first part; FLAG");
        formed("RENAME", Wire.rename("n=a", "n=b", 0), 32);
        onlyThese("RENAME", 0x6C, NAME, NAME, Wire.flag(1));
    }

    private static void search() {
        CHECK.sentence("SEARCH: CHOICE 0, 1, 2 (another is not of the form)");
        for (int choice = 0; choice <= 255; choice++) {
            byte[] request = Wire.search("n=a", choice, 0, TRUE);
            judged("choice " + choice, choice <= 2, Wire.message(1, request), 32);
        }
        onlyThese("SEARCH", 0x63, NAME, Wire.choice(0), Wire.integer(0), Wire.present("n"));
        malformed("two filters", Wire.search("", 0, 0, Wire.join(TRUE, TRUE)));
    }

    private static void limitNotBelow0() {
        CHECK.sentence("INT, the limit, not below 0");
        for (int limit : new int[] {0, 1, 127, 128, 255, 256, 32767}) {
            formed("limit " + limit, Wire.search("", 0, limit, TRUE), 0);
        }
        for (int limit : new int[] {-1, -2, -128, -129, -255, -256, -32768}) {
            malformed("limit " + limit, Wire.search("", 0, limit, TRUE));
        }
        byte[] minusOne = Wire.tlv(2, Wire.bytes(0xFF, 0xFF));
        malformed("limit -1 in two bytes",
                Wire.tlv(0x63, Wire.text(""), Wire.choice(0), minusOne, TRUE));
    }

    private static void andAndOr() {
        CHECK.sentence("A FILTER is a TLV 0xA0 AND or 0xA1 OR, with any number of filters");
        for (int tag : new int[] {0xA0, 0xA1}) {
            byte[] inner = EMPTY;
            for (int count = 0; count <= 11; count++) {
                formed(tag + " with " + count, Wire.search("", 2, 0, Wire.tlv(tag, inner)), 0);
                inner = Wire.join(inner, Wire.present("n"));
            }
            malformed(tag + " with a text", Wire.search("", 2, 0, Wire.tlv(tag, VALUE)));
            malformed(tag + " with a filter and a text",
                    Wire.search("", 2, 0, Wire.tlv(tag, Wire.present("n"), VALUE)));
            malformed(tag + " with a lone byte",
                    Wire.search("", 2, 0, Wire.tlv(tag, Wire.bytes(0x87))));
        }
    }

    private static void not() {
        CHECK.sentence("0xA2 NOT, with one filter");
        malformed("with none", Wire.search("", 2, 0, Wire.tlv(0xA2)));
        formed("with one", Wire.search("", 2, 0, Wire.tlv(0xA2, TRUE)), 0);
        malformed("with two", Wire.search("", 2, 0, Wire.tlv(0xA2, TRUE, TRUE)));
        malformed("with a text", Wire.search("", 2, 0, Wire.tlv(0xA2, VALUE)));
        formed("in an AND, with one", Wire.search("", 2, 0, Wire.and(Wire.not(TRUE), TRUE)), 0);
        malformed("in an AND, with none", Wire.search("", 2, 0, Wire.and(Wire.tlv(0xA2), TRUE)));
    }

    private static void pairs() {
        CHECK.sentence("0xA3 EQUAL, 0xA5 AT LEAST or 0xA6 AT MOST, with TEXT, a type, and TEXT, a value");
        for (int tag : new int[] {0xA3, 0xA5, 0xA6}) {
            formed(tag + " with two", Wire.search("", 2, 0, Wire.tlv(tag, TYPE, VALUE)), 0);
            malformed(tag + " with none", Wire.search("", 2, 0, Wire.tlv(tag)));
            malformed(tag + " with one", Wire.search("", 2, 0, Wire.tlv(tag, TYPE)));
            malformed(tag + " with three", Wire.search("", 2, 0, Wire.tlv(tag, TYPE, VALUE, VALUE)));
            malformed(tag + " with an INT", Wire.search("", 2, 0, Wire.tlv(tag, TYPE, Wire.integer(1))));
            malformed(tag + " with values", Wire.search("", 2, 0, Wire.tlv(tag, TYPE, VALUES)));
            malformed(tag + " with a filter", Wire.search("", 2, 0, Wire.tlv(tag, TRUE)));
        }
    }

    private static void present() {
        CHECK.sentence("0x87 PRESENT, whose content is a type, of at most 30 bytes");
        for (int size : new int[] {0, 1, 2, 29, 30, 31, 32, 60}) {
            byte[] request = Wire.search("", 2, 0, Wire.present("n".repeat(size)));
            judged("a type of " + size, size <= 30, Wire.message(1, request), 0);
        }
    }

    private static void otherFilters() {
        CHECK.sentence("A FILTER is one of these TLVs");
        for (int tag = 0; tag <= 255; tag++) {
            boolean present = tag == 0x87;
            boolean row = tag == 0xA0 || tag == 0xA1;
            boolean pair = tag == 0xA3 || tag == 0xA5 || tag == 0xA6;
            filterIs(present || row, Wire.tlv(tag));
            filterIs(present || row || tag == 0xA2, Wire.tlv(tag, TRUE));
            filterIs(present || pair, Wire.tlv(tag, TYPE, VALUE));
            filterIs(present, Wire.tlv(tag, Wire.latin("n")));
        }
        malformed("no filter at all", Wire.search("", 2, 0, EMPTY));
        malformed("a lone tag", Wire.search("", 2, 0, Wire.bytes(0xA0)));
    }

    private static void filterIs(boolean right, byte[] filter) {
        judged("filter " + Wire.hex(filter), right, Wire.message(1, Wire.search("", 2, 0, filter)), 0);
    }

    private static void atMost12Filters() {
        CHECK.sentence("A message has at most 12 filters");
        byte[][] ones = {TRUE, Wire.or(), Wire.present("n"), Wire.equal("", ""), Wire.not(TRUE)};
        for (byte[] one : ones) {
            int each = one[0] == (byte) 0xA2 ? 2 : 1;
            byte[] inner = EMPTY;
            for (int count = 1; count <= 16; count += each) {
                byte[] request = Wire.search("", 2, 0, Wire.or(inner));
                judged(count + " filters", count <= 12, Wire.message(1, request), 0);
                inner = Wire.join(inner, one);
            }
        }
        byte[] four = Wire.and(TRUE, TRUE, TRUE);
        formed("12 in groups", Wire.search("", 2, 0, Wire.or(four, four, Wire.and(TRUE, TRUE))), 0);
        malformed("13 in groups", Wire.search("", 2, 0, Wire.or(four, four, four)));
        DirectorySession x = new DirectorySession();
        Wire.ask(x, Wire.search("", 2, 0, Wire.or(four, four, Wire.and(TRUE, TRUE))));
        CHECK.same("the next message's are counted anew",
                Wire.ask(x, Wire.search("", 2, 0, Wire.or(four, four, Wire.and(TRUE, TRUE)))), 0);
    }

    private static void atMost6Deep() {
        CHECK.sentence("they lie at most 6 deep (a filter that is in no other one lies 1 deep)");
        byte[][] leaves = {TRUE, Wire.or(), Wire.present("n"), Wire.equal("n", "a")};
        for (byte[] leaf : leaves) {
            for (int tag : new int[] {0xA0, 0xA1, 0xA2}) {
                byte[] filter = leaf;
                for (int depth = 1; depth <= 12; depth++) {
                    byte[] request = Wire.search("", 2, 0, filter);
                    judged(depth + " deep in " + tag, depth <= 6, Wire.message(1, request), 0);
                    filter = Wire.tlv(tag, filter);
                }
            }
        }
        byte[] five = Wire.not(Wire.not(Wire.not(Wire.not(TRUE))));
        formed("6 deep, twice", Wire.search("", 2, 0, Wire.and(five, five)), 0);
        byte[] six = Wire.not(five);
        malformed("7 deep in the second", Wire.search("", 2, 0, Wire.and(TRUE, six)));
    }
}
