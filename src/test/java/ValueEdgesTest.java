/** The boundary cases of types, values and attributes, sentence by sentence. */
public final class ValueEdgesTest {
    private static final Check CHECK = new Check();
    private static final byte[] G = Wire.attribute("o", "g");
    private static final byte[] N = Wire.attribute("n", "a");

    public static void main(String[] args) {
        types();
        textsOf1To6Bytes();
        textsFrom32To126();
        nothingButSpaces();
        equalTexts();
        numbers();
        equalNumbers();
        classesOfOneLetter();
        equalClasses();
        secrets();
        equalSecrets();
        orderOfValues();
        oneToThreeValues();
        noTwoAreEqual();
        CHECK.finish();
    }

    /** n=a of the classes g and x, with a value of every type. */
    private static DirectorySession one() {
        DirectorySession x = new DirectorySession();
        Wire.ask(x, Wire.add("n=a", Wire.attribute("o", "g", "x"), N, Wire.attribute("d", "d"),
                Wire.attribute("i", "7"), Wire.attribute("s", "s")));
        CHECK.same("one entry", x.entries(), 1);
        return x;
    }

    private static boolean finds(DirectorySession x, byte[] filter) {
        Wire.ask(x, Wire.search("", 2, 0, filter));
        return x.found() > 0;
    }

    private static void types() {
        CHECK.sentence("TYPES are written as one byte, a letter, small or capital (any other text is no type)");
        for (int c = 0; c <= 255; c++) {
            String letter = "" + (char) c;
            isType(letter, "ondisONDIS".contains(letter));
        }
        for (String none : new String[] {"", "oo", "on", "n ", " n", "nn", "n\0", "\0n", "nnnnnn"}) {
            isType(none, false);
        }
        DirectorySession x = one();
        for (int t = 0; t < 5; t++) {
            String value = "gad7s".substring(t, t + 1);
            CHECK.same("small letter", Wire.ask(x, Wire.compare("n=a", "ondis".substring(t, t + 1), value)), 6);
            CHECK.same("capital letter", Wire.ask(x, Wire.compare("n=a", "ONDIS".substring(t, t + 1), value)), 6);
        }
    }

    private static void isType(String text, boolean right) {
        String what = "type " + Wire.hex(Wire.latin(text));
        DirectorySession x = one();
        CHECK.same(what + " in ADD", Wire.ask(x, Wire.add("n=b", Wire.attribute(text, ""))), right ? 21 : 17);
        CHECK.same(what + " in MODIFY", Wire.ask(x, Wire.modify("n=a", 0, text, "")), right ? 21 : 17);
        CHECK.same(what + " in COMPARE", Wire.ask(x, Wire.compare("n=a", text, "")), right ? 21 : 17);
        byte[] present = Wire.present(text);
        CHECK.same(what + " in PRESENT", finds(x, Wire.or(present, Wire.not(present))), right);
    }

    /** By every way that a value can come in. */
    private static void hasSyntax(String type, String value, boolean right) {
        String what = type + " " + Wire.hex(Wire.latin(value));
        DirectorySession x = one();
        boolean added = Wire.ask(x, Wire.add("n=b", Wire.attribute(type, value))) != 21;
        CHECK.same(what + " in ADD", added, right);
        String good = type.equals("o") ? "q" : "1";
        boolean second = Wire.ask(x, Wire.add("n=b", Wire.attribute(type, good, value))) != 21;
        CHECK.same(what + " in ADD as the second", second, right);
        CHECK.same(what + " in COMPARE", Wire.ask(x, Wire.compare("n=a", type, value)) != 21, right);
        byte[] equal = Wire.equal(type, value);
        CHECK.same(what + " in EQUAL", finds(x, Wire.or(equal, Wire.not(equal))), right);
        for (int change = 0; change <= 2; change++) {
            DirectorySession y = one();
            boolean done = Wire.ask(y, Wire.modify("n=a", change, type, value)) != 21;
            CHECK.same(what + " in MODIFY " + change, done, right);
        }
        if ("ndi".contains(type)) {
            hasSyntaxInNames(type, value, right);
        }
    }

    private static void hasSyntaxInNames(String type, String value, boolean right) {
        String part = type + "=" + marked(value);
        String what = "the part " + part;
        DirectorySession x = one();
        boolean named = Wire.ask(x, Wire.delete(part + ",n=zz")) == 32;
        CHECK.same(what + " as the first", named, right);
        CHECK.same(what + " as the second", Wire.ask(x, Wire.delete("n=zz," + part)) == 32, right);
        CHECK.same(what + " in RENAME", Wire.ask(x, Wire.rename("n=zz", part, 1)) == 32, right);
    }

    private static String marked(String value) {
        return value.replace("\\", "\\\\").replace(",", "\\,").replace("=", "\\=");
    }

    private static void textsOf1To6Bytes() {
        CHECK.sentence("n and d: 1 to 6 bytes");
        for (String type : new String[] {"n", "d"}) {
            hasSyntax(type, "", false);
            for (int size = 1; size <= 14; size++) {
                hasSyntax(type, "x".repeat(size), size <= 6);
            }
            hasSyntax(type, "x     ", true);
            hasSyntax(type, "x      ", false);
            hasSyntax(type, "      x", false);
            hasSyntax(type, "x".repeat(22), false);
        }
        DirectorySession x = new DirectorySession();
        CHECK.same("six marked ones", Wire.ask(x, Wire.add("n=\\,\\=\\\\\\,\\=\\\\", G,
                Wire.attribute("n", ",=\\,=\\"))), 0);
        CHECK.same("seven marked ones", Wire.ask(x, Wire.delete("n=\\,\\=\\\\\\,\\=\\\\\\,")), 34);
    }

    private static void textsFrom32To126() {
        CHECK.sentence("bytes from 32 to 126");
        for (int c = 0; c <= 255; c++) {
            boolean right = c >= 32 && c <= 126;
            for (String type : new String[] {"n", "d"}) {
                hasSyntax(type, "x" + (char) c, right);
                hasSyntax(type, (char) c + "x", right);
                hasSyntax(type, "xx" + (char) c + "xxx", right);
                hasSyntax(type, "xxxxx" + (char) c, right);
            }
        }
    }

    private static void nothingButSpaces() {
        CHECK.sentence("nothing but spaces is not allowed");
        for (String type : new String[] {"n", "d"}) {
            for (int size = 1; size <= 6; size++) {
                hasSyntax(type, " ".repeat(size), false);
                hasSyntax(type, " ".repeat(size - 1) + "!", true);
                hasSyntax(type, "~" + " ".repeat(size - 1), true);
            }
        }
    }

    /** By every way in which two values are held against one another. */
    private static void areEqual(String type, String a, String b, boolean right) {
        String what = type + " '" + a + "' and '" + b + "'";
        byte[] classes = type.equals("o") ? new byte[0] : Wire.attribute("o", "g", "x");
        byte[] name = type.equals("n") ? new byte[0] : N;
        DirectorySession x = new DirectorySession();
        int added = Wire.ask(x, Wire.add("n=a", classes, name, Wire.attribute(type, a, b)));
        CHECK.same(what + " in ADD", added == 20, right);
        DirectorySession y = new DirectorySession();
        String named = type.equals("n") ? "n=" + marked(a) : "n=a";
        CHECK.same(what + ": the first comes", Wire.ask(y,
                Wire.add(named, classes, name, Wire.attribute(type, a))), 0);
        CHECK.same(what + " in COMPARE", Wire.ask(y, Wire.compare(named, type, b)), right ? 6 : 5);
        CHECK.same(what + " in EQUAL", finds(y, Wire.equal(type, b)), right);
        CHECK.same(what + " in NOT EQUAL", finds(y, Wire.not(Wire.equal(type, b))), !right);
        int more = Wire.ask(y, Wire.modify(named, 0, type, b));
        CHECK.same(what + " in MODIFY", more == 20, right);
        DirectorySession z = new DirectorySession();
        Wire.ask(z, Wire.add(named, classes, name, Wire.attribute(type, a)));
        CHECK.same(what + " in MODIFY's delete",
                Wire.ask(z, Wire.modify(named, 1, type, b)) != 16, right);
        if ("ndi".contains(type)) {
            areEqualInNames(type, a, b, right);
        }
    }

    private static void areEqualInNames(String type, String a, String b, boolean right) {
        String what = "the parts " + type + " '" + a + "' and '" + b + "'";
        String first = type + "=" + marked(a);
        String second = type + "=" + marked(b);
        DirectorySession x = new DirectorySession();
        byte[] n = type.equals("n") ? Wire.attribute("n", a) : Wire.join(N, Wire.attribute(type, a));
        byte[] classes = Wire.attribute("o", "g", "x");
        CHECK.same(what + ": the first comes", Wire.ask(x, Wire.add(first, classes, n)), 0);
        CHECK.same(what + " are names of one",
                Wire.ask(x, Wire.compare(second, type, a)), right ? 6 : 32);
        byte[] m = type.equals("n") ? Wire.attribute("n", b) : Wire.join(N, Wire.attribute(type, b));
        CHECK.same(what + " in ADD's name", Wire.ask(x, Wire.add(second, classes, m)), right ? 68 : 0);
    }

    private static void equalTexts() {
        CHECK.sentence("Two are equal when they are the same once capital letters are made small,"
                + " spaces at the beginning and end are dropped, and several spaces in a row are made one");
        for (String type : new String[] {"n", "d"}) {
            areEqual(type, "AbCxYz", "aBcXyZ", true);
            areEqual(type, "AZ", "az", true);
            areEqual(type, "@[", "`{", false);
            areEqual(type, "a", "  a   ", true);
            areEqual(type, "     a", "a     ", true);
            areEqual(type, "a b", "a    b", true);
            areEqual(type, " a  b", "a b  ", true);
            areEqual(type, "a b", "ab", false);
            areEqual(type, "a b c", "a  b c", true);
            areEqual(type, "a b c", "ab c", false);
            areEqual(type, "a bc", "a b c", false);
            areEqual(type, "a  bc", "A BC", true);
            areEqual(type, "a", "aa", false);
            areEqual(type, "ab", "ba", false);
            areEqual(type, "a_b", "a b", false);
            areEqual(type, "1", "01", false);
            areEqual(type, ",=\\", " ,=\\ ", true);
            areEqual(type, "abcdef", "abcdeg", false);
            areEqual(type, "abcdef", "bbcdef", false);
        }
    }

    private static void numbers() {
        CHECK.sentence("i: a decimal number, 1 to 4 digits with a - before it or not,"
                + " the first digit not 0, unless it is 0 alone (without a -)");
        for (String right : new String[] {"0", "1", "9", "10", "99", "100", "999", "1000", "9999", "-1",
            "-9", "-10", "-99", "-100", "-999", "-1000", "-9999", "101", "-1001"}) {
            hasSyntax("i", right, true);
        }
        for (String wrong : new String[] {"", "-", "--", "--1", "-0", "00", "000", "0000", "01", "001",
            "0001", "-01", "-00", "10000", "12345", "-10000", "-12345", "99999", "123456", "1234567",
            "+1", "1-", "1-1", " 1", "1 ", "a", "1a", "a1", "1.", "/", ":", "-/", "-:", "1/", "1:", "0-",
            "1\0", "\u00b1"}) {
            hasSyntax("i", wrong, false);
        }
    }

    private static void equalNumbers() {
        CHECK.sentence("i: Equal when the same");
        areEqual("i", "1", "1", true);
        areEqual("i", "0", "0", true);
        areEqual("i", "-9999", "-9999", true);
        areEqual("i", "1", "-1", false);
        areEqual("i", "1", "10", false);
        areEqual("i", "12", "21", false);
        areEqual("i", "999", "9999", false);
        areEqual("i", "0", "1", false);
    }

    private static void classesOfOneLetter() {
        CHECK.sentence("o: one letter");
        for (int c = 0; c <= 255; c++) {
            boolean right = c >= 'a' && c <= 'z' || c >= 'A' && c <= 'Z';
            hasSyntax("o", "" + (char) c, right);
        }
        hasSyntax("o", "", false);
        hasSyntax("o", "gg", false);
        hasSyntax("o", "g ", false);
        hasSyntax("o", " g", false);
        hasSyntax("o", "gggggg", false);
        hasSyntax("o", "ggggggg", false);
    }

    private static void equalClasses() {
        CHECK.sentence("o: equal when the same, capital or small");
        areEqual("o", "g", "g", true);
        areEqual("o", "g", "G", true);
        areEqual("o", "G", "g", true);
        areEqual("o", "g", "x", false);
        areEqual("o", "g", "f", false);
        DirectorySession x = one();
        CHECK.same("x and X", Wire.ask(x, Wire.compare("n=a", "o", "X")), 6);
        CHECK.same("h is not g", Wire.ask(x, Wire.compare("n=a", "o", "h")), 5);
    }

    private static void secrets() {
        CHECK.sentence("s: 1 to 6 bytes of any kind");
        hasSyntax("s", "", false);
        for (int size = 1; size <= 30; size++) {
            hasSyntax("s", "\0".repeat(size), size <= 6);
            hasSyntax("s", "\u00ff".repeat(size), size <= 6);
        }
        for (int c = 0; c <= 255; c++) {
            String six = "" + (char) c + (char) (255 - c) + (char) c + (char) c + (char) c + (char) c;
            hasSyntax("s", "" + (char) c, true);
            hasSyntax("s", six, true);
            DirectorySession x = new DirectorySession();
            Wire.ask(x, Wire.add("n=a", Wire.attribute("o", "g", "x"), N, Wire.attribute("s", six)));
            for (int j = 0; j < 6; j++) {
                CHECK.same("byte " + j + " of the secret", x.value(0, 4, 0, j), (int) six.charAt(j));
            }
            CHECK.same("a seventh byte", x.value(0, 4, 0, 6), -1);
        }
    }

    private static void equalSecrets() {
        CHECK.sentence("s: equal when the same");
        areEqual("s", "k", "k", true);
        areEqual("s", "k", "K", false);
        areEqual("s", "k", "k ", false);
        areEqual("s", " k", "k", false);
        areEqual("s", "\0", "\0\0", false);
        areEqual("s", "\0k", "k", false);
        areEqual("s", "\0\0\0\0\0\0", "\0\0\0\0\0", false);
        areEqual("s", "\u0080", "\0", false);
        areEqual("s", "\u00ff\u00ff\u00ff\u00ff\u00ff\u00ff", "\u00ff\u00ff\u00ff\u00ff\u00ff\u00ff", true);
        areEqual("s", "\u00ff23456", "123456", false);
        areEqual("s", "  ", " ", false);
    }

    private static void orderOfValues() {
        CHECK.sentence("An attribute is a type with its values, in the order in which they were added");
        DirectorySession x = new DirectorySession();
        Wire.ask(x, Wire.add("n=a", Wire.attribute("o", "X", "g"), N, Wire.attribute("d", "z", "b")));
        CHECK.same("descriptions", Wire.valueTexts(x, 0, 2), "z/b");
        CHECK.same("classes", Wire.valueTexts(x, 0, 0), "X/g");
        Wire.ask(x, Wire.modify("n=a", 0, "d", "A"));
        CHECK.same("one is added", Wire.valueTexts(x, 0, 2), "z/b/A");
        Wire.ask(x, Wire.modify("n=a", 1, "d", "Z"));
        CHECK.same("the first goes", Wire.valueTexts(x, 0, 2), "b/A");
        Wire.ask(x, Wire.modify("n=a", 0, "d", "z"));
        CHECK.same("and comes again", Wire.valueTexts(x, 0, 2), "b/A/z");
    }

    private static void oneToThreeValues() {
        CHECK.sentence("1 to 3 for d and o, 1 for n, i and s");
        String[] types = {"o", "n", "d", "i", "s"};
        for (int t = 0; t < 5; t++) {
            int most = types[t].equals("o") || types[t].equals("d") ? 3 : 1;
            for (int count = 1; count <= 8; count++) {
                String[] values = new String[count];
                for (int k = 0; k < count; k++) {
                    values[k] = types[t].equals("o") ? "" + (char) ('g' + k) : "" + (k + 1);
                }
                DirectorySession x = one();
                int code = Wire.ask(x, Wire.add("n=b", Wire.attribute(types[t], values)));
                CHECK.same("ADD, " + count + " of " + types[t], code == 19, count > most);
                code = Wire.ask(x, Wire.modify("n=a", 2, types[t], values));
                CHECK.same("MODIFY, " + count + " of " + types[t], code == 19, count > most);
            }
        }
        DirectorySession x = new DirectorySession();
        CHECK.same("three descriptions", Wire.ask(x, Wire.add("n=a", G, N,
                Wire.attribute("d", "1", "2", "3"))), 0);
        CHECK.same("they are there", Wire.valueTexts(x, 0, 2), "1/2/3");
        CHECK.same("no fourth", Wire.ask(x, Wire.modify("n=a", 0, "d", "4")), 19);
    }

    private static void noTwoAreEqual() {
        CHECK.sentence("no two are equal");
        String[][] lists = {{"1", "1"}, {"1", "2", "1"}, {"2", "1", "1"}, {"1", "1", "2"}};
        for (String[] list : lists) {
            DirectorySession x = one();
            CHECK.same("in ADD", Wire.ask(x, Wire.add("n=b", G, Wire.attribute("d", list))), 20);
            for (int change = 0; change <= 2; change++) {
                CHECK.same("in MODIFY", Wire.ask(x, Wire.modify("n=a", change, "d", list)), 20);
            }
        }
        DirectorySession x = one();
        CHECK.same("with one that is there", Wire.ask(x, Wire.modify("n=a", 0, "d", "1", " D")), 20);
    }
}
