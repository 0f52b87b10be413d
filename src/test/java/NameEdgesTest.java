/** The boundary cases of names, entries and the schema, sentence by sentence. */
public final class NameEdgesTest {
    private static final Check CHECK = new Check();
    private static final byte[] G = Wire.attribute("o", "g");
    private static final byte[] N = Wire.attribute("n", "a");

    public static void main(String[] args) {
        emptyNameIsTheRoot();
        partsOfAName();
        typesInNames();
        marksInNames();
        atMost3Parts();
        valuesInNames();
        sameNames();
        atMost12Entries();
        orderOfEntries();
        firstPartAmongTheValues();
        parents();
        classesOfTheSchema();
        typesOfTheSchema();
        CHECK.finish();
    }

    private static void emptyNameIsTheRoot() {
        CHECK.sentence("the empty name, of no parts, is the ROOT, which is no entry");
        DirectorySession x = new DirectorySession();
        Wire.ask(x, Wire.add("n=a", G, N));
        CHECK.same("ADD", Wire.ask(x, Wire.add("", G, N)), 68);
        CHECK.same("DELETE", Wire.ask(x, Wire.delete("")), 32);
        CHECK.same("MODIFY", Wire.ask(x, Wire.modify("", 2, "d", "1")), 32);
        CHECK.same("RENAME", Wire.ask(x, Wire.rename("", "n=b", 1)), 32);
        CHECK.same("COMPARE", Wire.ask(x, Wire.compare("", "n", "a")), 32);
        CHECK.same("SEARCH", Wire.ask(x, Wire.search("", 0, 0, Wire.and())), 0);
        CHECK.same("SEARCH finds none", x.found(), 0);
        CHECK.same("BIND", Wire.ask(x, Wire.bind(3, "", "s")), 49);
    }

    private static void isName(String name, boolean right) {
        DirectorySession x = new DirectorySession();
        CHECK.same("name " + name, Wire.ask(x, Wire.delete(name)), right ? 32 : 34);
    }

    private static void partsOfAName() {
        CHECK.sentence("It is written as its parts with a , between them; a part is a type, a = and a value");
        for (String right : new String[] {"n=a", "n=a,n=b", "n=a,d=b,i=1", "n= a ,n= b"}) {
            isName(right, true);
        }
        for (String wrong : new String[] {"n", "=", "a", "n=", "=a", "na", "n=a,", ",n=a", ",", "n=a,,n=b",
            "n=a, n=b", "n=a;n=b", "n =a", " n=a", "n==a", "n=a=b", "n=a,n", "n=a,n=", "n=a,=b", "nn=a",
            "n:a", "n=a,nb", " ", "n=a,n=b,"}) {
            isName(wrong, false);
        }
    }

    private static void typesInNames() {
        CHECK.sentence("a part is a type (n, d or i)");
        for (int c = 0; c <= 255; c++) {
            boolean right = "ndiNDI".indexOf(c) >= 0;
            isName((char) c + "=1", right);
            isName("n=1," + (char) c + "=1", right);
            isName("n=1,n=1," + (char) c + "=1", right);
            DirectorySession x = new DirectorySession();
            boolean part = Wire.ask(x, Wire.rename("n=zz", (char) c + "=1", 1)) == 32;
            CHECK.same("a new part of type " + c, part, right);
        }
    }

    private static void marksInNames() {
        CHECK.sentence("In a value , = and \\ are written with a \\ before them, and before nothing else a \\ stands");
        for (int c = 0; c <= 255; c++) {
            char letter = (char) c;
            boolean marked = letter == ',' || letter == '=' || letter == '\\';
            isName("n=x\\" + letter, marked);
            isName("n=\\" + letter + "x", marked);
            isName("n=x,d=\\" + letter, marked);
            isName("n=x" + letter + "y", !marked && c >= 32 && c <= 126);
        }
        isName("n=\\", false);
        isName("n=x\\", false);
        isName("n=x\\\\", true);
        isName("n=x\\\\\\", false);
        isName("n=x\\\\,n=y", true);
        isName("n=x\\\\\\,n=y", false);
        isName("n=x\\,n\\=y", true);
        isName("i=\\1", false);
        DirectorySession x = new DirectorySession();
        CHECK.same("a value's own \\", Wire.ask(x, Wire.add("n=\\\\", G, Wire.attribute("n", "\\"))), 0);
        CHECK.same("two are not one", Wire.ask(x, Wire.delete("n=\\\\\\\\")), 32);
        CHECK.same("one it is", Wire.ask(x, Wire.delete("n=\\\\")), 0);
    }

    private static void atMost3Parts() {
        CHECK.sentence("At most 3 parts");
        isName("n=a", true);
        isName("n=a,n=a", true);
        isName("n=a,n=a,n=a", true);
        isName("n=a,n=a,n=a,n=a", false);
        isName("n=a,n=a,n=a,", false);
        isName("n=a,n=a,n=a,n=a,n=a", false);
        isName("i=1,i=1,i=1,i=1,i=1,i=1,i=1", false);
        DirectorySession x = new DirectorySession();
        CHECK.same("one part", Wire.ask(x, Wire.add("n=a", G, N)), 0);
        CHECK.same("two parts", Wire.ask(x, Wire.add("n=a,n=a", G, N)), 0);
        CHECK.same("three parts", Wire.ask(x, Wire.add("n=a,n=a,n=a", G, N)), 0);
        CHECK.same("four parts", Wire.ask(x, Wire.add("n=a,n=a,n=a,n=a", G, N)), 34);
        CHECK.same("three entries", x.entries(), 3);
    }

    private static void valuesInNames() {
        CHECK.sentence("each value must have its syntax");
        String[] rights = {"n=abcdef", "d=~", "i=-9999", "i=0"};
        String[] wrongs = {"n=abcdefg", "n= ", "d=\u007f", "d=", "i=-0", "i=a", "i= 1", "i=12345", "n=\u001f"};
        for (String right : rights) {
            isName(right, true);
            isName("n=a," + right, true);
            isName("n=a,n=a," + right, true);
        }
        for (String wrong : wrongs) {
            isName(wrong, false);
            isName("n=a," + wrong, false);
            isName(wrong + ",n=a", false);
            isName("n=a,n=a," + wrong, false);
        }
    }

    private static void sameNames() {
        CHECK.sentence("Two names are the same when they have as many parts, with the same types and equal values");
        DirectorySession x = new DirectorySession();
        Wire.ask(x, Wire.add("n=a", G, N, Wire.attribute("d", "a")));
        Wire.ask(x, Wire.add("n=a,n=a", G, N));
        String[] same = {"N=A,n= a", "n=a ,N=a", " n=a,n=a".trim()};
        for (String name : same) {
            CHECK.same("the same: " + name, Wire.ask(x, Wire.compare(name, "d", "a")), 16);
        }
        CHECK.same("as many parts", Wire.ask(x, Wire.compare("N= A", "d", "a")), 6);
        CHECK.same("more parts", Wire.ask(x, Wire.compare("n=a,n=a,n=a", "n", "a")), 32);
        CHECK.same("another type", Wire.ask(x, Wire.compare("d=a", "n", "a")), 32);
        CHECK.same("another type above", Wire.ask(x, Wire.compare("n=a,d=a", "n", "a")), 32);
        CHECK.same("another value", Wire.ask(x, Wire.compare("n=b,n=a", "n", "a")), 32);
        CHECK.same("another value above", Wire.ask(x, Wire.compare("n=a,n=b", "n", "a")), 32);
    }

    private static void atMost12Entries() {
        CHECK.sentence("ENTRIES: at most 12");
        DirectorySession x = new DirectorySession();
        for (int k = 0; k < 12; k++) {
            CHECK.same("entries before", x.entries(), k);
            CHECK.same("entry " + k, Wire.ask(x, Wire.add("n=" + k, G, Wire.attribute("n", "" + k))), 0);
        }
        CHECK.same("a thirteenth", Wire.ask(x, Wire.add("n=x", G, Wire.attribute("n", "x"))), 53);
        CHECK.same("a thirteenth below one", Wire.ask(x, Wire.add("n=x,n=0", G, Wire.attribute("n", "x"))), 53);
        CHECK.same("twelve", x.entries(), 12);
        CHECK.same("the last one", Wire.valueTexts(x, 11, 1), "11");
        CHECK.same("one goes", Wire.ask(x, Wire.delete("n=0")), 0);
        CHECK.same("eleven", x.entries(), 11);
        CHECK.same("one comes", Wire.ask(x, Wire.add("n=x", G, Wire.attribute("n", "x"))), 0);
        CHECK.same("twelve again", x.entries(), 12);
        CHECK.same("a thirteenth again", Wire.ask(x, Wire.add("n=0", G, Wire.attribute("n", "0"))), 53);
    }

    private static void orderOfEntries() {
        CHECK.sentence("in the order in which they were added");
        for (int gone = 0; gone < 4; gone++) {
            DirectorySession x = new DirectorySession();
            StringBuilder due = new StringBuilder();
            for (int k = 0; k < 4; k++) {
                Wire.ask(x, Wire.add("n=" + (9 - k), G, Wire.attribute("n", "" + (9 - k))));
                due.append(k == gone ? "" : "" + (9 - k));
            }
            Wire.ask(x, Wire.delete("n=" + (9 - gone)));
            Wire.ask(x, Wire.add("n=" + (9 - gone), G, Wire.attribute("n", "" + (9 - gone))));
            Wire.ask(x, Wire.rename("n=" + (9 - gone), "n=0", 1));
            StringBuilder names = new StringBuilder();
            for (int e = 0; e < 4; e++) {
                names.append(Wire.valueTexts(x, e, 1));
            }
            CHECK.same("the order when " + gone + " goes and comes", names.toString(), due + "0");
        }
    }

    private static void firstPartAmongTheValues() {
        CHECK.sentence("An entry has a name, whose first part is one of its attributes' values");
        byte[] all = Wire.join(Wire.attribute("o", "g", "x"), Wire.attribute("n", " A"),
                Wire.attribute("d", "1", "B  b", "c"), Wire.attribute("i", "7"), Wire.attribute("s", "z"));
        for (String right : new String[] {"n=a", "N=A ", "d=1", "d=b b", "D=C", "i=7"}) {
            CHECK.same("add " + right, Wire.ask(new DirectorySession(), Wire.add(right, all)), 0);
        }
        for (String wrong : new String[] {"n=1", "n=b", "d=a", "d=bb", "d=7", "i=1", "i=-7", "n=z", "i=70"}) {
            CHECK.same("add " + wrong, Wire.ask(new DirectorySession(), Wire.add(wrong, all)), 64);
        }
        DirectorySession x = new DirectorySession();
        Wire.ask(x, Wire.add("n=a", all));
        CHECK.same("the first part, not another", Wire.ask(x, Wire.add("d=1,n=a", all)), 0);
        CHECK.same("a value of the second part alone", Wire.ask(x, Wire.add("n=b,n=a", all)), 64);
        CHECK.same("without the type", Wire.ask(x, Wire.add("i=7,n=a", G, N)), 64);
    }

    private static void parents() {
        CHECK.sentence("and its parent (the entry whose name is the rest, or the root)");
        DirectorySession x = new DirectorySession();
        CHECK.same("no parent yet", Wire.ask(x, Wire.add("n=a,n=b", G, N)), 32);
        Wire.ask(x, Wire.add("n=a", G, N));
        Wire.ask(x, Wire.add("n=b", G, Wire.attribute("n", "b")));
        Wire.ask(x, Wire.add("n=a,n=b", G, N));
        Wire.ask(x, Wire.add("n=a,n=a,n=b", G, N));
        CHECK.same("the rest is a name of one", Wire.ask(x, Wire.add("n=a,n=a,n=a", G, N)), 32);
        CHECK.same("parents", x.parent(0) + " " + x.parent(1) + " " + x.parent(2) + " " + x.parent(3),
                "-1 -1 1 2");
        Wire.ask(x, Wire.delete("n=a"));
        CHECK.same("parents move with the places", x.parent(0) + " " + x.parent(1) + " " + x.parent(2),
                "-1 0 1");
    }

    private static int addWith(String classes, String types) {
        byte[] all = classes.isEmpty() ? new byte[0] : Wire.attribute("o", classes.split(""));
        for (String type : types.split("")) {
            all = types.isEmpty() ? all : Wire.join(all, Wire.attribute(type, "1"));
        }
        return Wire.ask(new DirectorySession(), Wire.add("n=1", all));
    }

    private static void classesOfTheSchema() {
        CHECK.sentence("the values of o are among g, h, x, and exactly one of them is structural");
        for (String right : new String[] {"g", "G", "gx", "xg", "Xg", "XG", "h", "hx", "xh"}) {
            CHECK.same("classes " + right, addWith(right, right.toLowerCase().contains("h") ? "ni" : "n"), 0);
        }
        for (String wrong : new String[] {"", "x", "gh", "hg", "ghx", "xgh", "gq", "qg", "gxq", "q", "hq",
            "gf", "gi", "gw", "gy"}) {
            CHECK.same("classes " + wrong, addWith(wrong, "ni"), 65);
            CHECK.same("classes " + wrong + " without i", addWith(wrong, "n"), 65);
        }
    }

    private static void typesOfTheSchema() {
        CHECK.sentence("class g has n, and may have d; class h has n and i, and may have d and s;"
                + " with x, it may have i and s besides; it has no others (but o)");
        for (int set = 0; set < 16; set++) {
            String types = (set & 1) == 0 ? "" : "n";
            types += (set & 2) == 0 ? "" : "d";
            types += (set & 4) == 0 ? "" : "i";
            types += (set & 8) == 0 ? "" : "s";
            CHECK.same("g with " + types, addWith("g", types), types.matches("nd?") ? 0 : 65);
            CHECK.same("g x with " + types, addWith("gx", types), types.matches("nd?i?s?") ? 0 : 65);
            CHECK.same("h with " + types, addWith("h", types), types.matches("nd?is?") ? 0 : 65);
            CHECK.same("h x with " + types, addWith("hx", types), types.matches("nd?is?") ? 0 : 65);
        }
    }
}
