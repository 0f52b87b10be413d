/** The boundary cases of SEARCH, of filters and of what is written out, sentence by sentence. */
public final class SearchEdgesTest {
    private static final Check CHECK = new Check();
    private static final byte[] TRUE = Wire.and();
    private static final byte[] FALSE = Wire.or();
    private static final byte[] UNDEFINED = Wire.present("x");

    public static void main(String[] args) {
        base();
        scopes();
        limit();
        found();
        present();
        undefinedPairs();
        equal();
        order();
        and();
        or();
        not();
        answers();
        ids();
        attributes();
        names();
        CHECK.finish();
    }

    /** a, b and c one below the other, then e at the root with the number -7. */
    private static DirectorySession four() {
        DirectorySession x = new DirectorySession();
        Wire.ask(x, Wire.add("n=a", Wire.attribute("o", "g"), Wire.attribute("n", "a")));
        Wire.ask(x, Wire.add("n=b,n=a", Wire.attribute("o", "g"), Wire.attribute("n", "b"),
                Wire.attribute("d", "One", "t  Wo")));
        Wire.ask(x, Wire.add("n=c,n=b,n=a", Wire.attribute("o", "h"), Wire.attribute("n", "c"),
                Wire.attribute("i", "12")));
        Wire.ask(x, Wire.add("n=e", Wire.attribute("o", "X", "G"), Wire.attribute("n", "e"),
                Wire.attribute("i", "-7"), Wire.attribute("s", "k")));
        CHECK.same("four", x.entries(), 4);
        return x;
    }

    /** The code, and the own names of those that are found. */
    private static String search(DirectorySession x, String base, int scope, int limit, byte[] filter) {
        StringBuilder names = new StringBuilder().append(Wire.ask(x, Wire.search(base, scope, limit, filter)));
        names.append(' ');
        byte[] all = Wire.output(x);
        int at = 0;
        for (int k = 0; k < x.found(); k++) {
            // 0x30 L, the ID in three bytes, 0x64 L, 0x04 L, and the name
            names.append((char) all[at + 11]);
            at += 2 + all[at + 1];
        }
        CHECK.same("behind the entries stands the result", all.length - at, 14);
        return names.toString();
    }

    private static void base() {
        CHECK.sentence("SEARCH: 34 the base; 32 it is neither an entry nor the root (none is found then)");
        for (int scope = 0; scope <= 2; scope++) {
            DirectorySession x = four();
            search(x, "", 2, 0, TRUE);
            CHECK.same("found before", x.found(), 4);
            CHECK.same("no name", search(x, "a", scope, 0, TRUE), "34 ");
            CHECK.same("none found", x.found(), 0);
            search(x, "", 2, 0, TRUE);
            CHECK.same("no entry", search(x, "n=b", scope, 1, TRUE), "32 ");
            CHECK.same("none found then", x.found(), 0);
            CHECK.same("no entry below one", search(x, "n=z,n=a", scope, 0, TRUE), "32 ");
            DirectorySession y = new DirectorySession();
            CHECK.same("the root of no entries", search(y, "", scope, 0, TRUE), "0 ");
            CHECK.same("no entry there", search(y, "n=a", scope, 0, TRUE), "32 ");
        }
    }

    private static void scopes() {
        CHECK.sentence("0 the base alone, 1 the entries directly below it, 2 the base and all entries below it;"
                + " The root itself is never brought out");
        DirectorySession x = four();
        String[] bases = {"", "n=a", "n=b,n=a", "n=c,n=b,n=a", "n=e"};
        String[][] due = {{"", "ae", "abce"}, {"a", "b", "abc"}, {"b", "c", "bc"}, {"c", "", "c"},
            {"e", "", "e"}};
        for (int k = 0; k < bases.length; k++) {
            for (int scope = 0; scope <= 2; scope++) {
                CHECK.same("base " + bases[k] + " scope " + scope, search(x, bases[k], scope, 0, TRUE),
                        "0 " + due[k][scope]);
            }
        }
    }

    private static void limit() {
        CHECK.sentence("when the limit is not 0 and there are more, only as many as the limit, and the code is 4; else 0");
        String[] due = {"0 abce", "4 a", "4 ab", "4 abc", "0 abce", "0 abce"};
        DirectorySession x = four();
        for (int limit = 0; limit <= 5; limit++) {
            CHECK.same("limit " + limit, search(x, "", 2, limit, TRUE), due[limit]);
            CHECK.same("found with limit " + limit, x.found(), due[limit].length() - 2);
        }
        CHECK.same("limit 256", search(x, "", 2, 256, TRUE), "0 abce");
        CHECK.same("limit 32767", search(x, "", 2, 32767, TRUE), "0 abce");
        CHECK.same("limit 1, none", search(x, "", 2, 1, FALSE), "0 ");
        CHECK.same("limit 1, one", search(x, "", 2, 1, Wire.present("s")), "0 e");
        CHECK.same("limit 1, two with others between", search(x, "", 2, 1, Wire.present("i")), "4 c");
        CHECK.same("limit 1, the base alone", search(x, "n=a", 0, 1, TRUE), "0 a");
        CHECK.same("limit 1, one below", search(x, "n=a", 1, 1, TRUE), "0 b");
        CHECK.same("limit 1, others are not in the scope", search(x, "n=c,n=b,n=a", 2, 1, TRUE), "0 c");
        DirectorySession y = new DirectorySession();
        for (int k = 0; k < 12; k++) {
            Wire.ask(y, Wire.add("n=" + (char) ('a' + k), Wire.attribute("o", "g"),
                    Wire.attribute("n", "" + (char) ('a' + k))));
        }
        CHECK.same("limit 11 of twelve", search(y, "", 2, 11, TRUE), "4 abcdefghijk");
        CHECK.same("limit 12 of twelve", search(y, "", 2, 12, TRUE), "0 abcdefghijkl");
        CHECK.same("limit 13 of twelve", search(y, "", 2, 13, TRUE), "0 abcdefghijkl");
    }

    private static void found() {
        CHECK.sentence("then the entries in the scope for which the filter is TRUE are brought out, in their order");
        DirectorySession x = four();
        CHECK.same("true", search(x, "", 2, 0, TRUE), "0 abce");
        CHECK.same("false", search(x, "", 2, 0, FALSE), "0 ");
        CHECK.same("undefined", search(x, "", 2, 0, UNDEFINED), "0 ");
        CHECK.same("their order, not the filter's", search(x, "", 2, 0,
                Wire.or(Wire.equal("n", "e"), Wire.equal("n", "a"))), "0 ae");
        Wire.ask(x, Wire.delete("n=c,n=b,n=a"));
        Wire.ask(x, Wire.add("n=c,n=b,n=a", Wire.attribute("o", "g"), Wire.attribute("n", "c")));
        CHECK.same("in their order now", search(x, "", 2, 0, TRUE), "0 abec");
        CHECK.same("below a", search(x, "n=a", 2, 0, TRUE), "0 abc");
    }

    /** 2 true, 1 undefined, 0 false for the entry with the own name. */
    private static int truth(DirectorySession x, String name, byte[] filter) {
        boolean isTrue = search(x, name, 0, 0, filter).length() > 2;
        boolean isFalse = search(x, name, 0, 0, Wire.not(filter)).length() > 2;
        CHECK.holds("not true and false at once", !(isTrue && isFalse));
        return isTrue ? 2 : isFalse ? 0 : 1;
    }

    private static void present() {
        CHECK.sentence("PRESENT: undefined when it is no type (one byte is needed); else whether the entry has the type");
        for (int c = 0; c <= 255; c++) {
            int due = "onisONIS".indexOf(c) >= 0 ? 2 : "dD".indexOf(c) >= 0 ? 0 : 1;
            CHECK.same("type " + c, truth(four(), "n=e", Wire.present("" + (char) c)), due);
        }
        for (String none : new String[] {"", "nn", "n ", " n", "on", "o".repeat(30)}) {
            CHECK.same("type '" + none + "'", truth(four(), "n=e", Wire.present(none)), 1);
        }
        DirectorySession x = four();
        CHECK.same("d is there", truth(x, "n=b,n=a", Wire.present("d")), 2);
        Wire.ask(x, Wire.modify("n=b,n=a", 1, "d"));
        CHECK.same("d is there no more", truth(x, "n=b,n=a", Wire.present("d")), 0);
    }

    private static void undefinedPairs() {
        CHECK.sentence("EQUAL, AT LEAST, AT MOST: undefined when it is no type, the value has not its syntax,"
                + " or AT LEAST or AT MOST is used with another type than i");
        String[] types = {"", "x", "nn", "o", "n", "d", "i", "s", "I"};
        String[] values = {"", "g", "1", "-7", "01", "-0", "12345", "gg", "  ", "abcdef", "abcdefg", "\0",
            "\u00ff"};
        for (String type : types) {
            for (String value : values) {
                boolean syntax = hasSyntax(type.toLowerCase(), value);
                boolean number = type.equalsIgnoreCase("i");
                String what = type + " " + Wire.hex(Wire.latin(value));
                DirectorySession x = four();
                CHECK.same("EQUAL " + what, truth(x, "n=e", Wire.equal(type, value)) != 1, syntax);
                CHECK.same("AT LEAST " + what, truth(x, "n=e", Wire.atLeast(type, value)) != 1, syntax && number);
                CHECK.same("AT MOST " + what, truth(x, "n=e", Wire.atMost(type, value)) != 1, syntax && number);
            }
        }
        CHECK.same("AT LEAST with n, though the value is a number",
                truth(four(), "n=e", Wire.atLeast("n", "1")), 1);
        CHECK.same("no syntax, though the entry has not the type", truth(four(), "n=a", Wire.equal("i", "x")), 1);
    }

    private static boolean hasSyntax(String type, String value) {
        switch (type) {
            case "o":
                return value.matches("[a-zA-Z]");
            case "n":
            case "d":
                return value.matches("[ -~]{1,6}") && !value.isBlank();
            case "i":
                return value.matches("0|-?[1-9][0-9]{0,3}");
            case "s":
                return value.length() >= 1 && value.length() <= 6;
            default:
                return false;
        }
    }

    private static void equal() {
        CHECK.sentence("otherwise, whether the entry has a value of that type that is equal");
        DirectorySession x = four();
        CHECK.same("the first", truth(x, "n=b,n=a", Wire.equal("d", "ONE ")), 2);
        CHECK.same("the second", truth(x, "n=b,n=a", Wire.equal("d", "T wo")), 2);
        CHECK.same("another", truth(x, "n=b,n=a", Wire.equal("d", "two")), 0);
        CHECK.same("false, not undefined, without the type", truth(x, "n=a", Wire.equal("d", "one")), 0);
        CHECK.same("a value of another type", truth(x, "n=a", Wire.equal("d", "a")), 0);
        CHECK.same("a class", truth(x, "n=e", Wire.equal("o", "x")), 2);
        CHECK.same("a number", truth(x, "n=e", Wire.equal("i", "-7")), 2);
        CHECK.same("another number", truth(x, "n=e", Wire.equal("i", "7")), 0);
        CHECK.same("a secret", truth(x, "n=e", Wire.equal("s", "k")), 2);
        CHECK.same("another secret", truth(x, "n=e", Wire.equal("s", "K")), 0);
    }

    private static void order() {
        CHECK.sentence("is a number not less, or is a number not greater");
        int[] numbers = {-9999, -1000, -999, -100, -99, -10, -9, -8, -7, -6, -1, 0, 1, 9, 10, 99, 100, 999,
            1000, 9999};
        for (int there : numbers) {
            DirectorySession x = new DirectorySession();
            Wire.ask(x, Wire.add("n=a", Wire.attribute("o", "h"), Wire.attribute("n", "a"),
                    Wire.attribute("i", "" + there)));
            for (int asked : numbers) {
                Wire.ask(x, Wire.search("n=a", 0, 0, Wire.atLeast("i", "" + asked)));
                CHECK.same(there + " at least " + asked, x.found() == 1, there >= asked);
                Wire.ask(x, Wire.search("n=a", 0, 0, Wire.atMost("I", "" + asked)));
                CHECK.same(there + " at most " + asked, x.found() == 1, there <= asked);
            }
        }
        CHECK.same("at least, false without i", truth(four(), "n=a", Wire.atLeast("i", "-9999")), 0);
        CHECK.same("at most, false without i", truth(four(), "n=a", Wire.atMost("i", "9999")), 0);
    }

    private static byte[][] three() {
        return new byte[][] {FALSE, UNDEFINED, TRUE};
    }

    private static void and() {
        CHECK.sentence("AND: false when one of them is false, else undefined when one is undefined, else true");
        CHECK.same("of none", truth(four(), "n=a", Wire.and()), 2);
        for (int a = 0; a < 3; a++) {
            CHECK.same("of " + a, truth(four(), "n=a", Wire.and(three()[a])), a);
            for (int b = 0; b < 3; b++) {
                CHECK.same("of " + a + b, truth(four(), "n=a", Wire.and(three()[a], three()[b])), Math.min(a, b));
                for (int c = 0; c < 3; c++) {
                    CHECK.same("of " + a + b + c, truth(four(), "n=a",
                            Wire.and(three()[a], three()[b], three()[c])), Math.min(a, Math.min(b, c)));
                }
            }
        }
    }

    private static void or() {
        CHECK.sentence("OR: true when one is true, else undefined when one is undefined, else false");
        CHECK.same("of none", truth(four(), "n=a", Wire.or()), 0);
        for (int a = 0; a < 3; a++) {
            CHECK.same("of " + a, truth(four(), "n=a", Wire.or(three()[a])), a);
            for (int b = 0; b < 3; b++) {
                CHECK.same("of " + a + b, truth(four(), "n=a", Wire.or(three()[a], three()[b])), Math.max(a, b));
                for (int c = 0; c < 3; c++) {
                    CHECK.same("of " + a + b + c, truth(four(), "n=a",
                            Wire.or(three()[a], three()[b], three()[c])), Math.max(a, Math.max(b, c)));
                }
            }
        }
    }

    private static void not() {
        CHECK.sentence("NOT: true for false, false for true, undefined for undefined");
        DirectorySession x = four();
        for (int a = 0; a < 3; a++) {
            byte[] filter = three()[a];
            for (int times = 1; times <= 4; times++) {
                filter = Wire.not(filter);
                CHECK.same("not " + a + ", " + times + " times", truth(x, "n=a", filter),
                        times % 2 == 0 ? a : 2 - a);
            }
        }
        byte[] both = Wire.and(Wire.not(Wire.or(FALSE, UNDEFINED)), Wire.not(Wire.and(TRUE, FALSE)));
        CHECK.same("among others", truth(x, "n=a", both), 1);
    }

    private static void answers() {
        CHECK.sentence("an answer is 0x30 with the ID and a TLV, with CHOICE, the code, and two empty texts");
        byte[][] requests = {Wire.bind(3, "", ""), Wire.search("a", 0, 0, TRUE), Wire.modify("a", 0, "d"),
            Wire.add("a"), Wire.delete("a"), Wire.rename("a", "a", 0), Wire.compare("a", "d", "")};
        int[] tags = {0x61, 0x65, 0x67, 0x69, 0x6B, 0x6D, 0x6F};
        for (int k = 0; k < tags.length; k++) {
            DirectorySession x = new DirectorySession();
            Wire.ask(x, 9, requests[k]);
            int code = k == 0 ? 0 : 34;
            CHECK.same("the answer " + tags[k], Wire.outputHex(x), Wire.hex(Wire.bytes(0x30, 12, 2, 1, 9,
                    tags[k], 7, 0x0A, 1, code, 4, 0, 4, 0)));
        }
    }

    private static void ids() {
        CHECK.sentence("the ID as an INT (one byte below 128, else two)");
        for (int id : new int[] {1, 2, 126, 127, 128, 129, 255, 256, 257, 32766, 32767}) {
            DirectorySession x = four();
            Wire.ask(x, id, Wire.search("n=a", 0, 0, TRUE));
            byte[] number = id < 128 ? Wire.bytes(2, 1, id) : Wire.bytes(2, 2, id / 256, id % 256);
            byte[] entry = Wire.tlv(0x64, Wire.text("n=a"),
                    Wire.tlv(0x30, Wire.attribute("o", "g"), Wire.attribute("n", "a")));
            byte[] result = Wire.tlv(0x65, Wire.choice(0), Wire.text(""), Wire.text(""));
            CHECK.same("ID " + id, Wire.outputHex(x), Wire.hex(Wire.join(Wire.tlv(0x30, number, entry),
                    Wire.tlv(0x30, number, result))));
        }
    }

    private static void attributes() {
        CHECK.sentence("for each type that it has, in the order o, n, d, i, s, TEXT, the type as a small letter,"
                + " and its VALUES as they were given");
        DirectorySession x = new DirectorySession();
        Wire.ask(x, Wire.add("n=a", Wire.attribute("S", "\0\u00ff"), Wire.attribute("I", "0"),
                Wire.attribute("D", "Z", " y  Y", "x"), Wire.attribute("N", " A"), Wire.attribute("O", "X", "H")));
        Wire.ask(x, Wire.search("", 2, 0, TRUE));
        CHECK.same("all of them", Wire.outputHex(x), Wire.hex(Wire.join(Wire.found(1, "n=a",
                Wire.attribute("o", "X", "H"), Wire.attribute("n", " A"), Wire.attribute("d", "Z", " y  Y", "x"),
                Wire.attribute("i", "0"), Wire.attribute("s", "\0\u00ff")), Wire.result(1, 0x65, 0))));
        Wire.ask(x, Wire.modify("n=a", 1, "d"));
        Wire.ask(x, Wire.modify("n=a", 2, "s"));
        Wire.ask(x, Wire.search("", 2, 0, TRUE));
        CHECK.same("those that it has", Wire.outputHex(x), Wire.hex(Wire.join(Wire.found(1, "n=a",
                Wire.attribute("o", "X", "H"), Wire.attribute("n", " A"), Wire.attribute("i", "0")),
                Wire.result(1, 0x65, 0))));
    }

    private static void names() {
        CHECK.sentence("A name is written with small letters for types, its values in the plain form (i as it is),"
                + " and a \\ before , = and \\ alone");
        written("N=a", "n=a", "n", "a");
        written("D=  A  B", "d=a b", "d", "A B");
        written("I=-10", "i=-10", "i", "-10");
        written("n=\\,\\=\\\\", "n=\\,\\=\\\\", "n", ",=\\");
        written("n=Z\\,\\,z", "n=z\\,\\,z", "n", "z,,Z");
        for (int c = 33; c <= 126; c++) {
            String letter = "" + (char) c;
            String marked = ",=\\".contains(letter) ? "\\" + letter : letter;
            written("n=" + marked, "n=" + marked.toLowerCase(), "n", letter);
        }
        DirectorySession x = new DirectorySession();
        Wire.ask(x, Wire.add("N=A\\=", Wire.attribute("o", "g"), Wire.attribute("n", "a=")));
        Wire.ask(x, Wire.add("D=B,N= A\\=", Wire.attribute("o", "g"), Wire.attribute("n", "q"),
                Wire.attribute("d", "b")));
        Wire.ask(x, Wire.search("n=a\\=", 1, 0, TRUE));
        CHECK.same("two parts", Wire.outputHex(x), Wire.hex(Wire.join(Wire.found(1, "d=b,n=a\\=",
                Wire.attribute("o", "g"), Wire.attribute("n", "q"), Wire.attribute("d", "b")),
                Wire.result(1, 0x65, 0))));
    }

    private static void written(String given, String due, String type, String value) {
        DirectorySession x = new DirectorySession();
        boolean n = type.equals("n");
        byte[] own = n ? Wire.attribute("n", value) : Wire.attribute("n", "q");
        byte[] more = n ? new byte[0] : Wire.attribute(type, value);
        CHECK.same("add " + given, Wire.ask(x, Wire.add(given, Wire.attribute("o", "g", "x"), own, more)), 0);
        Wire.ask(x, Wire.search("", 2, 0, TRUE));
        CHECK.same("written " + given, Wire.outputHex(x), Wire.hex(Wire.join(
                Wire.found(1, due, Wire.attribute("o", "g", "x"), own, more), Wire.result(1, 0x65, 0))));
    }
}
