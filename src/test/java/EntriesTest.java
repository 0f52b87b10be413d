/** Promises 7 and 11 to 14: ADD and DELETE, and what can be asked of the entries. */
public final class EntriesTest {
    private static final Check CHECK = new Check();
    private static final byte[] G = Wire.attribute("o", "g");
    private static final byte[] GX = Wire.attribute("o", "g", "x");
    private static final byte[] H = Wire.attribute("o", "h");

    public static void main(String[] args) {
        addAndAsk();
        wrongPlaces();
        names();
        equalNames();
        attributes();
        firstCodeCounts();
        syntaxOfTexts();
        syntaxOfNumbers();
        syntaxOfOthers();
        schema();
        twelve();
        delete();
        CHECK.finish();
    }

    private static int add(DirectorySession x, String name, byte[]... attributes) {
        return Wire.ask(x, Wire.add(name, attributes));
    }

    private static int addFresh(String name, byte[]... attributes) {
        DirectorySession x = new DirectorySession();
        int code = add(x, name, attributes);
        CHECK.same("entries after " + name, x.entries(), code == 0 ? 1 : 0);
        return code;
    }

    private static byte[] n(String... values) {
        return Wire.attribute("n", values);
    }

    private static byte[] d(String... values) {
        return Wire.attribute("d", values);
    }

    private static byte[] i(String... values) {
        return Wire.attribute("i", values);
    }

    private static byte[] s(String... values) {
        return Wire.attribute("s", values);
    }

    private static void addAndAsk() {
        DirectorySession x = new DirectorySession();
        CHECK.same("add", add(x, "n=a", Wire.attribute("O", "X", "H"), i("-12"), n(" A "),
                d("Dd", "e  E"), s("\u00ff\0")), 0);
        CHECK.same("answer", Wire.outputHex(x), Wire.hex(Wire.result(1, 0x69, 0)));
        CHECK.same("below", add(x, "D=q,N=A", G, n("b"), d("p", " Q")), 0);
        CHECK.same("below that", add(x, "n=c,d=q,n=a", G, n("c")), 0);
        CHECK.same("entries", x.entries(), 3);
        CHECK.same("parent 0", x.parent(0), -1);
        CHECK.same("parent 1", x.parent(1), 0);
        CHECK.same("parent 2", x.parent(2), 1);
        CHECK.same("classes", Wire.valueTexts(x, 0, 0), "X/H");
        CHECK.same("name", Wire.valueTexts(x, 0, 1), " A ");
        CHECK.same("descriptions", Wire.valueTexts(x, 0, 2), "Dd/e  E");
        CHECK.same("number", Wire.valueTexts(x, 0, 3), "-12");
        CHECK.same("secret", x.value(0, 4, 0, 0) * 1000 + x.value(0, 4, 0, 1), 255000);
        CHECK.same("secret's end", x.value(0, 4, 0, 2), -1);
        CHECK.same("no secret", x.values(1, 4), 0);
        CHECK.same("no secret's byte", x.value(1, 4, 0, 0), -1);
    }

    private static void wrongPlaces() {
        DirectorySession x = new DirectorySession();
        add(x, "n=abc", G, n("abc"));
        CHECK.same("one entry", x.entries(), 1);
        for (int e : new int[] {-1, 1, 12, 13, Integer.MIN_VALUE, Integer.MAX_VALUE}) {
            CHECK.same("parent " + e, x.parent(e), -2);
            CHECK.same("values " + e, x.values(e, 1), -1);
            CHECK.same("value " + e, x.value(e, 1, 0, 0), -1);
        }
        for (int t : new int[] {-1, 5, Integer.MIN_VALUE, Integer.MAX_VALUE}) {
            CHECK.same("values t " + t, x.values(0, t), -1);
            CHECK.same("value t " + t, x.value(0, t, 0, 0), -1);
        }
        for (int k : new int[] {-1, 1, 2, 3, 11, Integer.MIN_VALUE, Integer.MAX_VALUE}) {
            CHECK.same("value k " + k, x.value(0, 1, k, 0), -1);
        }
        for (int j : new int[] {-1, 3, 6, 7, Integer.MIN_VALUE, Integer.MAX_VALUE}) {
            CHECK.same("value j " + j, x.value(0, 1, 0, j), -1);
        }
        CHECK.same("value", x.value(0, 1, 0, 2), (int) 'c');
        add(x, "n=d", G, n("d"), d("1", "2", "3"));
        CHECK.same("the third value", x.value(1, 2, 2, 0), (int) '3');
        CHECK.same("no fourth value", x.value(1, 2, 3, 0), -1);
        Wire.ask(x, Wire.modify("n=d", 1, "d", "2", "3"));
        CHECK.same("one is left", x.values(1, 2), 1);
        CHECK.same("no second value any more", x.value(1, 2, 1, 0), -1);
        CHECK.same("nor a third one", x.value(1, 2, 2, 0), -1);
    }

    private static void names() {
        String[] wrong = {"a", "n", "n=", "=a", "n=a,", ",n=a", "n=a,,n=b", "o=g", "s=k", "x=a",
            "nn=a", "n=a=b", "n=\\a", "n=a\\", "n=\\", "n==", "n=1234567", "n=      ", "n=\u0080",
            "n=\u001f", "i=a", "i=-0", "i=00", "i=12345", " n=a", "n =a", "n=a;n=b",
            "n=a,n=b,n=c,n=d", "n=a,o=g", "n=a,n=", "n=\\=\\=\\=\\=\\=\\=\\="};
        for (String name : wrong) {
            CHECK.same("no name: " + name, addFresh(name, G, n("a")), 34);
        }
        CHECK.same("the root", addFresh("", G, n("a")), 68);
        CHECK.same("marks", addFresh("n=\\,\\=\\\\", G, n(",=\\")), 0);
        CHECK.same("six marks", addFresh("n=\\,\\,\\,\\,\\,\\,", G, n(",,,,,,")), 0);
        CHECK.same("by number", addFresh("i=-7", H, n("a"), i("-7")), 0);
        CHECK.same("by number, capital", addFresh("I=0", H, n("a"), i("0")), 0);
        CHECK.same("by description", addFresh("d=~ !", G, n("a"), d("x", "y", "~  !")), 0);
        CHECK.same("three parts, no parent", addFresh("n=a,n=b,n=c", G, n("a")), 32);
        CHECK.same("not among the values", addFresh("n=a", G, n("b")), 64);
        CHECK.same("another type has it", addFresh("d=a", G, n("a")), 64);
    }

    private static void equalNames() {
        DirectorySession x = new DirectorySession();
        add(x, "n=a b", G, n("a b"), d("a b"));
        for (String same : new String[] {"n=a b", "N=A B", "n= a b", "n=a b ", "n=a   b", "n=A  b "}) {
            CHECK.same("the same: " + same, add(x, same, G, n("a b")), 68);
        }
        CHECK.same("another type", add(x, "d=a b", G, n("c"), d("a b")), 0);
        CHECK.same("other letters", add(x, "n=ab", G, n("ab")), 0);
        CHECK.same("below itself", add(x, "n=a b,n=A B", G, n("a b")), 0);
        CHECK.same("below itself again", add(x, "n=a b,n=A B", G, n("a b")), 68);
        CHECK.same("its parent", x.parent(3), 0);
    }

    private static void attributes() {
        CHECK.same("no type", addFresh("n=a", G, n("a"), Wire.attribute("x", "1")), 17);
        CHECK.same("an empty type", addFresh("n=a", Wire.attribute("", "1")), 17);
        CHECK.same("a long type", addFresh("n=a", Wire.attribute("nn", "1")), 17);
        for (int letter = 0; letter < 256; letter++) {
            char c = (char) letter;
            int due = "ondisONDIS".indexOf(c) >= 0 ? 21 : 17;
            CHECK.same("type " + letter, addFresh("n=a", Wire.attribute("" + c, "")), due);
        }
        CHECK.same("a type twice", addFresh("n=a", G, n("a"), Wire.attribute("N", "b")), 20);
        CHECK.same("equal values", addFresh("n=a", G, n("a"), d("x y", "X  Y ")), 20);
        CHECK.same("equal classes", addFresh("n=a", Wire.attribute("o", "g", "G"), n("a")), 20);
        CHECK.same("equal secrets", addFresh("n=a", GX, n("a"), s("k", "k")), 20);
        CHECK.same("two secrets", addFresh("n=a", GX, n("a"), s("k", "K")), 19);
        CHECK.same("two names", addFresh("n=a", G, n("a", "b")), 19);
        CHECK.same("two numbers", addFresh("n=a", H, n("a"), i("1", "2")), 19);
        CHECK.same("three descriptions", addFresh("n=a", G, n("a"), d("1", "2", "3")), 0);
        CHECK.same("four descriptions", addFresh("n=a", G, n("a"), d("1", "2", "3", "4")), 19);
        CHECK.same("eight descriptions",
                addFresh("n=a", G, n("a"), d("1", "2", "3", "4", "5", "6", "7", "8")), 19);
        CHECK.same("four classes", addFresh("n=a", Wire.attribute("o", "g", "x", "a", "b"), n("a")), 19);
    }

    private static void firstCodeCounts() {
        CHECK.same("34 before 17", addFresh("a", Wire.attribute("x", "1")), 34);
        CHECK.same("first attribute first", addFresh("n=a", n("a", "b"), Wire.attribute("x", "1")), 19);
        CHECK.same("first attribute's 21", addFresh("n=a", i("x"), Wire.attribute("x", "1")), 21);
        CHECK.same("second attribute's 17", addFresh("n=a", Wire.attribute("x", "1"), i("x")), 17);
        CHECK.same("20 the type before 21", addFresh("n=a", n("a"), n("")), 20);
        CHECK.same("first value's 21", addFresh("n=a", d("", "b", "b")), 21);
        CHECK.same("20 before a later 21", addFresh("n=a", d("b", "b", "")), 20);
        CHECK.same("21 before 19", addFresh("n=a", n("b", "c", "")), 21);
        CHECK.same("20 before 19", addFresh("n=a", n("b", "c", "c")), 20);
        CHECK.same("19 before 68", addFresh("", n("a", "b")), 19);
        CHECK.same("68 before 65", addFresh("", n("a")), 68);
        CHECK.same("32 before 65", addFresh("n=a,n=b", n("a")), 32);
        CHECK.same("65 before 64", addFresh("n=a", n("b")), 65);
    }

    private static void syntaxOfTexts() {
        for (int c = 0; c < 256; c++) {
            String one = "" + (char) c;
            int due = c > 32 && c < 127 ? 0 : 21;
            CHECK.same("d " + c, addFresh("n=a", G, n("a"), d(one)), due);
            CHECK.same("n " + c, addFresh("d=a", G, n(one), d("a")), due);
            int dueAmong = c >= 32 && c < 127 ? 0 : 21;
            CHECK.same("d x" + c + "y", addFresh("n=a", G, n("a"), d("x" + one + "y")), dueAmong);
        }
        for (String wrong : new String[] {"", "1234567", " ", "      ", "123456 "}) {
            CHECK.same("d '" + wrong + "'", addFresh("n=a", G, n("a"), d(wrong)), 21);
        }
        CHECK.same("six", addFresh("n=a", G, n("a"), d("123456", "     x", "x     ")), 20);
        CHECK.same("not equal", addFresh("n=a", G, n("a"), d("ab", "a b", "a_b")), 0);
        CHECK.same("@ and ` are not equal", addFresh("n=a", G, n("a"), d("@", "`")), 0);
        CHECK.same("[ and { are not equal", addFresh("n=a", G, n("a"), d("[", "{")), 0);
    }

    private static void syntaxOfNumbers() {
        for (String right : new String[] {"0", "1", "9", "10", "9999", "-1", "-9999", "-10"}) {
            CHECK.same("i " + right, addFresh("n=a", H, n("a"), i(right)), 0);
        }
        for (String wrong : new String[] {"", "-", "-0", "00", "01", "-01", "10000", "-10000", "+1",
            "1 ", " 1", "1a", "--1", "1-", "0x1", "1.0", "/", ":", "1:"}) {
            CHECK.same("i " + wrong, addFresh("n=a", H, n("a"), i(wrong)), 21);
        }
    }

    private static void syntaxOfOthers() {
        for (int c = 0; c < 256; c++) {
            String one = "" + (char) c;
            boolean letter = c >= 'a' && c <= 'z' || c >= 'A' && c <= 'Z';
            int due = "gG".contains(one) ? 0 : letter ? 65 : 21;
            CHECK.same("o " + c, addFresh("n=a", Wire.attribute("o", one), n("a")), due);
            CHECK.same("s " + c, addFresh("n=a", GX, n("a"), s(one)), 0);
        }
        CHECK.same("o of two", addFresh("n=a", Wire.attribute("o", "gg"), n("a")), 21);
        CHECK.same("o of none", addFresh("n=a", Wire.attribute("o", ""), n("a")), 21);
        CHECK.same("s of none", addFresh("n=a", GX, n("a"), s("")), 21);
        CHECK.same("s of six", addFresh("n=a", GX, n("a"), s("      ")), 0);
        CHECK.same("s of seven", addFresh("n=a", GX, n("a"), s("1234567")), 21);
    }

    private static void schema() {
        String[] classes = {"", "g", "h", "x", "gx", "hx", "gh", "ghx", "gq", "q"};
        for (String set : classes) {
            for (int types = 0; types < 16; types++) {
                byte[] all = new byte[0];
                String there = "";
                if (!set.isEmpty()) {
                    all = Wire.attribute("o", set.split(""));
                }
                for (int t = 0; t < 4; t++) {
                    if ((types >> t & 1) != 0) {
                        String type = "" + "ndis".charAt(t);
                        there += type;
                        all = Wire.join(all, Wire.attribute(type, "1"));
                    }
                }
                boolean fits = set.equals("g") && there.matches("nd?")
                        || set.equals("gx") && there.matches("nd?i?s?")
                        || set.matches("hx?") && there.matches("nd?is?");
                CHECK.same("classes " + set + " types " + there, addFresh("n=1", all), fits ? 0 : 65);
            }
        }
    }

    private static void twelve() {
        DirectorySession x = new DirectorySession();
        for (int k = 0; k < 12; k++) {
            CHECK.same("entry " + k, add(x, "n=" + k, G, n("" + k)), 0);
        }
        CHECK.same("twelve", x.entries(), 12);
        CHECK.same("a thirteenth", add(x, "n=x", G, n("x")), 53);
        CHECK.same("53 before 65", add(x, "n=x", n("x")), 53);
        CHECK.same("68 before 53", add(x, "n=3", G, n("3")), 68);
        CHECK.same("32 before 53", add(x, "n=x,n=y", G, n("x")), 32);
        CHECK.same("still twelve", x.entries(), 12);
        CHECK.same("one goes", Wire.ask(x, Wire.delete("n=5")), 0);
        CHECK.same("one comes", add(x, "n=x", G, n("x")), 0);
        CHECK.same("it is the last", Wire.valueTexts(x, 11, 1), "x");
        CHECK.same("the others moved up", Wire.valueTexts(x, 5, 1), "6");
        CHECK.same("and are all there", Wire.valueTexts(x, 10, 1), "11");
        CHECK.same("the freed place counts", add(x, "n=y", G, n("y")), 53);
    }

    private static void delete() {
        DirectorySession x = new DirectorySession();
        add(x, "n=a", G, n("a"), d("keep"));
        add(x, "n=b", G, n("b"));
        add(x, "n=c,n=b", G, n("c"));
        CHECK.same("no name", Wire.ask(x, Wire.delete("b")), 34);
        CHECK.same("the root", Wire.ask(x, Wire.delete("")), 32);
        CHECK.same("none", Wire.ask(x, Wire.delete("n=c")), 32);
        CHECK.same("a parent", Wire.ask(x, Wire.delete("n=b")), 66);
        CHECK.same("all are there", x.entries(), 3);
        CHECK.same("the first", Wire.ask(x, Wire.delete("N=A")), 0);
        CHECK.same("its answer", Wire.outputHex(x), Wire.hex(Wire.result(1, 0x6B, 0)));
        CHECK.same("two left", x.entries(), 2);
        CHECK.same("the child's parent moved", x.parent(1), 0);
        CHECK.same("and is at the root", x.parent(0), -1);
        CHECK.same("the child", Wire.ask(x, Wire.delete("n=c,n=b")), 0);
        CHECK.same("the parent then", Wire.ask(x, Wire.delete("n=b")), 0);
        CHECK.same("none left", x.entries(), 0);
        add(x, "n=z", G, n("z"));
        CHECK.same("nothing of an old entry", x.values(0, 2), 0);
    }
}
