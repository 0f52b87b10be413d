/** Promises 7, 13 and 14: MODIFY, RENAME and COMPARE, with their codes in their order. */
public final class ChangesTest {
    private static final Check CHECK = new Check();
    private static final int ADD = 0;
    private static final int DELETE = 1;
    private static final int REPLACE = 2;

    public static void main(String[] args) {
        modifyAdds();
        modifyDeletes();
        modifyReplaces();
        modifyKeepsNameAndStructure();
        modifyKeepsSchema();
        modifyOrder();
        renameValues();
        renameMarks();
        renameBelow();
        renameRefused();
        renameOrder();
        compare();
        CHECK.finish();
    }

    /** n=a with the classes g and x, and two descriptions; n=h of class h below it. */
    private static DirectorySession two() {
        DirectorySession x = new DirectorySession();
        Wire.ask(x, Wire.add("n=a", Wire.attribute("o", "g", "x"), Wire.attribute("n", "a"),
                Wire.attribute("d", "One", "two")));
        Wire.ask(x, Wire.add("n=h,n=a", Wire.attribute("o", "h"), Wire.attribute("n", "h"),
                Wire.attribute("i", "5")));
        CHECK.same("two entries", x.entries(), 2);
        return x;
    }

    private static void modified(int due, String after, int change, String type, String... values) {
        DirectorySession x = two();
        String before = Model.entries(x);
        String what = "modify " + change + " " + type + " " + String.join("/", values);
        CHECK.same(what, Wire.ask(x, Wire.modify("n=a", change, type, values)), due);
        CHECK.same(what + " answer", Wire.outputHex(x), Wire.hex(Wire.result(1, 0x67, due)));
        if (due == 0) {
            int t = "ondis".indexOf(type.toLowerCase());
            CHECK.same(what + " values", Wire.valueTexts(x, 0, t), after);
        } else {
            CHECK.same(what + " changes nothing", Model.entries(x), before);
        }
    }

    private static void modifyAdds() {
        modified(0, "One/two/3", ADD, "D", "3");
        modified(2, null, ADD, "d");
        modified(2, null, ADD, "i");
        modified(20, null, ADD, "d", "ONE ");
        modified(20, null, ADD, "d", "3", "TWO");
        modified(20, null, ADD, "d", "3", "3 ");
        modified(19, null, ADD, "d", "3", "4");
        modified(19, null, ADD, "d", "3", "4", "5", "6", "7", "8", "9", "0");
        modified(20, null, ADD, "d", "3", "4", "5", "6", "7", "8", "9", "one");
        modified(19, null, ADD, "n", "b");
        modified(0, "7", ADD, "i", "7");
        modified(19, null, ADD, "i", "7", "8");
        modified(0, "\u0001", ADD, "s", "\u0001");
    }

    private static void modifyDeletes() {
        modified(0, "", DELETE, "d");
        modified(0, "two", DELETE, "d", "one");
        modified(0, "One", DELETE, "d", " TWO");
        modified(0, "", DELETE, "d", "two", "one");
        modified(16, null, DELETE, "d", "one", "3");
        modified(16, null, DELETE, "d", "3");
        modified(16, null, DELETE, "i");
        modified(16, null, DELETE, "i", "5");
        modified(20, null, DELETE, "d", "one", "One");
        modified(21, null, DELETE, "d", "");
        modified(0, "g", DELETE, "o", "X");
        modified(69, null, DELETE, "o", "g");
        modified(69, null, DELETE, "o");
    }

    private static void modifyReplaces() {
        modified(0, "3", REPLACE, "d", "3");
        modified(0, "", REPLACE, "d");
        modified(0, "", REPLACE, "i");
        modified(0, "", REPLACE, "s");
        modified(0, "TWO/ONE/3", REPLACE, "d", "TWO", "ONE", "3");
        modified(19, null, REPLACE, "d", "1", "2", "3", "4");
        modified(20, null, REPLACE, "d", "1", "1", "3", "4");
        modified(19, null, REPLACE, "i", "1", "2");
        modified(0, "A ", REPLACE, "n", "A ");
        modified(0, "X/G", REPLACE, "o", "X", "G");
        modified(19, null, REPLACE, "o", "g", "x", "a", "b");
    }

    private static void modifyKeepsNameAndStructure() {
        modified(67, null, REPLACE, "n", "b");
        modified(67, null, REPLACE, "n");
        modified(67, null, DELETE, "n");
        modified(67, null, DELETE, "n", "A");
        modified(69, null, REPLACE, "o", "h");
        modified(69, null, REPLACE, "o", "g", "h");
        modified(69, null, REPLACE, "o", "x");
        modified(69, null, REPLACE, "o", "q");
        modified(69, null, REPLACE, "o");
        modified(69, null, ADD, "o", "h");
    }

    private static void modifyKeepsSchema() {
        modified(65, null, ADD, "o", "q");
        modified(65, null, REPLACE, "o", "g", "q");
        DirectorySession x = two();
        CHECK.same("i while x is there", Wire.ask(x, Wire.modify("n=a", ADD, "i", "1")), 0);
        CHECK.same("then x must stay", Wire.ask(x, Wire.modify("n=a", DELETE, "o", "x")), 65);
        CHECK.same("h needs i", Wire.ask(x, Wire.modify("n=h,n=a", DELETE, "i")), 65);
        CHECK.same("h may change i", Wire.ask(x, Wire.modify("n=h,n=a", REPLACE, "i", "6")), 0);
        CHECK.same("h may have s", Wire.ask(x, Wire.modify("n=h,n=a", ADD, "s", "k")), 0);
        CHECK.same("h may have x", Wire.ask(x, Wire.modify("n=h,n=a", ADD, "o", "X")), 0);
    }

    private static void modifyOrder() {
        DirectorySession x = two();
        CHECK.same("34 before 17", Wire.ask(x, Wire.modify("a", ADD, "x")), 34);
        CHECK.same("32 before 17", Wire.ask(x, Wire.modify("n=b", ADD, "x")), 32);
        CHECK.same("the root is none", Wire.ask(x, Wire.modify("", ADD, "x")), 32);
        CHECK.same("17 before 21", Wire.ask(x, Wire.modify("n=a", ADD, "x", "")), 17);
        CHECK.same("17 before 2", Wire.ask(x, Wire.modify("n=a", ADD, "x")), 17);
        CHECK.same("21 before 16", Wire.ask(x, Wire.modify("n=a", DELETE, "i", "x")), 21);
        CHECK.same("21 then 20", Wire.ask(x, Wire.modify("n=a", ADD, "d", "", "3", "3")), 21);
        CHECK.same("20 then 21", Wire.ask(x, Wire.modify("n=a", ADD, "d", "3", "3", "")), 20);
        CHECK.same("19 before 67", Wire.ask(x, Wire.modify("n=a", REPLACE, "n", "b", "c")), 19);
        CHECK.same("67 before 65", Wire.ask(x, Wire.modify("n=h,n=a", DELETE, "n")), 67);
        CHECK.same("69 before 65", Wire.ask(x, Wire.modify("n=a", REPLACE, "o", "q")), 69);
    }

    private static void renameValues() {
        DirectorySession x = two();
        CHECK.same("two names are too many", Wire.ask(x, Wire.rename("n=a", "n=b", 0)), 19);
        CHECK.same("the old one goes", Wire.ask(x, Wire.rename("n=a", "n= B  b", 1)), 0);
        CHECK.same("answer", Wire.outputHex(x), Wire.hex(Wire.result(1, 0x6D, 0)));
        CHECK.same("as it was given", Wire.valueTexts(x, 0, 1), " B  b");
        CHECK.same("to a description", Wire.ask(x, Wire.rename("n=b b", "d=TWO", 0)), 0);
        CHECK.same("an equal one stays", Wire.valueTexts(x, 0, 2), "One/two");
        CHECK.same("a new one comes last", Wire.ask(x, Wire.rename("d=two", "d=3", 0)), 0);
        CHECK.same("three", Wire.valueTexts(x, 0, 2), "One/two/3");
        CHECK.same("a fourth is too many", Wire.ask(x, Wire.rename("d=3", "d=4", 0)), 19);
        CHECK.same("unless one goes", Wire.ask(x, Wire.rename("d=3", "d=4", 0xFF)), 0);
        CHECK.same("the fourth", Wire.valueTexts(x, 0, 2), "One/two/4");
        CHECK.same("to one that is there", Wire.ask(x, Wire.rename("d=4", "d=one", 1)), 0);
        CHECK.same("two are left", Wire.valueTexts(x, 0, 2), "One/two");
        CHECK.same("the same part", Wire.ask(x, Wire.rename("d=one", "D=ONE ", 1)), 0);
        CHECK.same("stays as it was given", Wire.valueTexts(x, 0, 2), "One/two");
        CHECK.same("the same part, no flag", Wire.ask(x, Wire.rename("d=one", "d=one", 0)), 0);
        CHECK.same("to a number", Wire.ask(x, Wire.rename("d=one", "i=7", 1)), 0);
        CHECK.same("the old description went", Wire.valueTexts(x, 0, 2), "two");
        CHECK.same("the number came", Wire.valueTexts(x, 0, 3), "7");
        CHECK.same("to another number", Wire.ask(x, Wire.rename("i=7", "i=8", 0)), 19);
        CHECK.same("it goes with the flag", Wire.ask(x, Wire.rename("i=7", "i=8", 2)), 0);
        CHECK.same("the other number", Wire.valueTexts(x, 0, 3), "8");
    }

    private static void renameMarks() {
        DirectorySession x = two();
        CHECK.same("marks", Wire.ask(x, Wire.rename("n=a", "n=A\\,\\=\\\\", 1)), 0);
        CHECK.same("without marks", Wire.valueTexts(x, 0, 1), "A,=\\");
        Wire.ask(x, Wire.search("", 1, 0, Wire.present("n")));
        CHECK.same("written with marks", Wire.outputHex(x), Wire.hex(Wire.join(
                Wire.found(1, "n=a\\,\\=\\\\", Wire.attribute("o", "g", "x"),
                        Wire.attribute("n", "A,=\\"), Wire.attribute("d", "One", "two")),
                Wire.result(1, 0x65, 0))));
    }

    private static void renameBelow() {
        DirectorySession x = two();
        Wire.ask(x, Wire.add("n=k,n=h,n=a", Wire.attribute("o", "g"), Wire.attribute("n", "k")));
        Wire.ask(x, Wire.rename("n=k,n=h,n=a", "n=\\,\\,\\,\\,\\,\\,", 1));
        Wire.ask(x, Wire.rename("n=h,n=a", "n=\\=\\=\\=\\=\\=\\=", 1));
        Wire.ask(x, Wire.rename("n=a", "n=\\\\\\\\\\\\\\\\\\\\\\\\", 1));
        CHECK.same("all renamed", x.code(), 0);
        CHECK.same("the old name is none", Wire.ask(x, Wire.delete("n=h,n=a")), 32);
        Wire.ask(x, Wire.search("", 2, 0, Wire.equal("n", ",,,,,,")));
        CHECK.same("a name above 30 bytes", Wire.outputHex(x), Wire.hex(Wire.join(
                Wire.found(1, "n=\\,\\,\\,\\,\\,\\,,n=\\=\\=\\=\\=\\=\\=,n=\\\\\\\\\\\\\\\\\\\\\\\\",
                        Wire.attribute("o", "g"), Wire.attribute("n", ",,,,,,")),
                Wire.result(1, 0x65, 0))));
        CHECK.same("parents stay", x.parent(2) * 10 + x.parent(1), 10);
    }

    private static void renameRefused() {
        DirectorySession x = two();
        Wire.ask(x, Wire.add("n=b", Wire.attribute("o", "g"), Wire.attribute("n", "b")));
        CHECK.same("another has it", Wire.ask(x, Wire.rename("n=b", "n=A", 1)), 68);
        CHECK.same("one below another has it", Wire.ask(x, Wire.rename("n=b", "n=h", 1)), 0);
        CHECK.same("a class without i", Wire.ask(x, Wire.rename("n=h", "i=1", 0)), 65);
        CHECK.same("n must stay", Wire.ask(x, Wire.rename("n=h", "d=1", 1)), 65);
        CHECK.same("nothing came", x.values(2, 2), 0);
        CHECK.same("n stays without the flag", Wire.ask(x, Wire.rename("n=h", "d=1", 0)), 0);
        CHECK.same("it has both", Wire.valueTexts(x, 2, 1) + Wire.valueTexts(x, 2, 2), "h1");
        CHECK.same("h's i must stay", Wire.ask(x, Wire.rename("n=h,n=a", "i=5", 0)), 0);
        CHECK.same("h's i may not go", Wire.ask(x, Wire.rename("i=5,n=a", "n=h", 1)), 65);
    }

    private static void renameOrder() {
        DirectorySession x = two();
        CHECK.same("no name", Wire.ask(x, Wire.rename("a", "n=b", 1)), 34);
        CHECK.same("no part", Wire.ask(x, Wire.rename("n=a", "b", 1)), 34);
        CHECK.same("an empty part", Wire.ask(x, Wire.rename("n=a", "", 1)), 34);
        CHECK.same("two parts", Wire.ask(x, Wire.rename("n=a", "n=b,n=c", 1)), 34);
        CHECK.same("34 before 32", Wire.ask(x, Wire.rename("n=z", "b", 1)), 34);
        CHECK.same("the root is none", Wire.ask(x, Wire.rename("", "n=b", 1)), 32);
        CHECK.same("none", Wire.ask(x, Wire.rename("n=z", "n=a", 1)), 32);
        Wire.ask(x, Wire.add("n=b", Wire.attribute("o", "g"), Wire.attribute("n", "b")));
        CHECK.same("68 before 19", Wire.ask(x, Wire.rename("n=b", "n=a", 0)), 68);
        CHECK.same("19 before 65", Wire.ask(x, Wire.rename("n=h,n=a", "i=6", 0)), 19);
    }

    private static void compare() {
        DirectorySession x = two();
        CHECK.same("no name", Wire.ask(x, Wire.compare("a", "x", "")), 34);
        CHECK.same("none", Wire.ask(x, Wire.compare("n=z", "x", "")), 32);
        CHECK.same("the root is none", Wire.ask(x, Wire.compare("", "x", "")), 32);
        CHECK.same("no type", Wire.ask(x, Wire.compare("n=a", "x", "")), 17);
        CHECK.same("21 before 16", Wire.ask(x, Wire.compare("n=a", "i", "01")), 21);
        CHECK.same("not that type", Wire.ask(x, Wire.compare("n=a", "i", "1")), 16);
        CHECK.same("equal", Wire.ask(x, Wire.compare("n=a", "D", " ONE")), 6);
        CHECK.same("answer", Wire.outputHex(x), Wire.hex(Wire.result(1, 0x6F, 6)));
        CHECK.same("the second is equal", Wire.ask(x, Wire.compare("N=A", "d", "Two")), 6);
        CHECK.same("none is equal", Wire.ask(x, Wire.compare("n=a", "d", "3")), 5);
        CHECK.same("classes", Wire.ask(x, Wire.compare("n=a", "o", "G")), 6);
        CHECK.same("another class", Wire.ask(x, Wire.compare("n=a", "o", "h")), 5);
        CHECK.same("numbers", Wire.ask(x, Wire.compare("n=h,n=a", "i", "5")), 6);
        Wire.ask(x, Wire.modify("n=a", ADD, "s", "Ab "));
        CHECK.same("secrets are equal when the same", Wire.ask(x, Wire.compare("n=a", "s", "ab ")), 5);
        CHECK.same("secrets keep spaces", Wire.ask(x, Wire.compare("n=a", "s", "Ab")), 5);
        CHECK.same("the same secret", Wire.ask(x, Wire.compare("n=a", "s", "Ab ")), 6);
    }
}
