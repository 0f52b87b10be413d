/** The boundary cases of RENAME, clause by clause. */
public final class RenameEdgesTest {
    private static final Check CHECK = new Check();

    public static void main(String[] args) {
        inOrder();
        oneNewPart();
        nameOfAnother();
        oldPartGoes();
        samePart();
        newValueComesLast();
        withoutMarks();
        equalOneStays();
        tooManyValues();
        schema();
        newName();
        namesBelow();
        boundStays();
        CHECK.finish();
    }

    /** n=a with g, x and two descriptions; n=h below it with h and i; n=b with g; d=e with g and n e. */
    private static DirectorySession four() {
        DirectorySession x = new DirectorySession();
        Wire.ask(x, Wire.add("n=a", Wire.attribute("o", "g", "x"), Wire.attribute("n", "a"),
                Wire.attribute("d", "One", "two")));
        Wire.ask(x, Wire.add("n=h,n=a", Wire.attribute("o", "h"), Wire.attribute("n", "h"),
                Wire.attribute("i", "5"), Wire.attribute("s", "Key")));
        Wire.ask(x, Wire.add("n=b", Wire.attribute("o", "g"), Wire.attribute("n", "b")));
        Wire.ask(x, Wire.add("d=e", Wire.attribute("o", "g"), Wire.attribute("n", "e"),
                Wire.attribute("d", "E")));
        CHECK.same("four entries", x.entries(), 4);
        return x;
    }

    private static void renamed(DirectorySession x, String name, String part, int flag, int due) {
        String what = "rename " + name + " to " + part + " flag " + flag;
        String before = due == 0 ? null : Wire.everything(x);
        CHECK.same(what, Wire.ask(x, 77, Wire.rename(name, part, flag)), due);
        CHECK.same(what + ": the answer", Wire.outputHex(x), Wire.hex(Wire.result(77, 0x6D, due)));
        if (due != 0) {
            CHECK.same(what + ": all stays as it is", Wire.everything(x), before);
        }
    }

    private static String names(DirectorySession x, int e) {
        return Wire.valueTexts(x, e, 1) + " " + Wire.valueTexts(x, e, 2) + " " + Wire.valueTexts(x, e, 3);
    }

    private static void inOrder() {
        CHECK.sentence("RENAME: 34; 32; 68; 19; 65; else 0");
        String[] names = {"n=b", "b", "", "n=zz"};
        int[] nameCodes = {0, 34, 32, 32};
        String[] parts = {"n=c", "c", "", "n=c,n=d", "n=a", "d=e", "i=1"};
        int[] partCodes = {0, 34, 34, 34, 68, 68, 0};
        for (int name = 0; name < names.length; name++) {
            for (int part = 0; part < parts.length; part++) {
                for (int flag = 0; flag <= 1; flag++) {
                    int due;
                    if (nameCodes[name] == 34 || partCodes[part] == 34) {
                        due = 34;
                    } else if (nameCodes[name] == 32) {
                        due = 32;
                    } else if (partCodes[part] == 68) {
                        due = 68;
                    } else if (parts[part].equals("i=1")) {
                        due = 65;
                    } else {
                        due = flag == 0 ? 19 : 0;
                    }
                    renamed(four(), names[name], parts[part], flag, due);
                }
            }
        }
        renamed(four(), "n=h,n=a", "i=6", 1, 19);
        renamed(four(), "n=h,n=a", "i=6", 0, 19);
    }

    private static void oneNewPart() {
        CHECK.sentence("34 the name, or the new part, is none, or the latter is not just one part");
        String[] none = {"", "c", "n", "n=", "=c", "o=g", "s=k", "x=c", "n=1234567", "n= ", "i=01", "n=c,",
            ",n=c", "n=c,n=d", "n=c,n=a", "n=b,n=b,n=b", "n=\\c", "n=c\\", "n=c=d", "n=\u007f"};
        for (String part : none) {
            renamed(four(), "n=b", part, 1, 34);
            renamed(four(), "n=zz", part, 1, 34);
        }
        renamed(four(), "n=b", "n=\\,", 1, 0);
    }

    private static void nameOfAnother() {
        CHECK.sentence("68 the new name (the new part, and the parent) is that of another entry");
        renamed(four(), "n=b", "n=A ", 1, 68);
        renamed(four(), "n=b", "n=a", 0, 68);
        renamed(four(), "n=b", "d= E", 1, 68);
        renamed(four(), "n=a", "n=b", 1, 68);
        renamed(four(), "n=b", "n=h", 1, 0);
        renamed(four(), "n=h,n=a", "n=b", 1, 0);
        renamed(four(), "n=h,n=a", "n=a", 1, 0);
        renamed(four(), "n=b", "n=e", 1, 0);
        renamed(four(), "n=b", "d=one", 0, 0);
        renamed(four(), "n=b", "n=B", 1, 0);
        DirectorySession x = four();
        Wire.ask(x, Wire.add("n=k,n=a", Wire.attribute("o", "g"), Wire.attribute("n", "k")));
        renamed(x, "n=k,n=a", "n=h", 1, 68);
        renamed(x, "n=h,n=a", "n=k", 1, 68);
    }

    private static void oldPartGoes() {
        CHECK.sentence("if the flag is on, the value that equals the old part goes");
        DirectorySession x = four();
        renamed(x, "n=a", "n=c", 1, 0);
        CHECK.same("it went", names(x, 0), "c One/two ");
        renamed(x, "n=c", "d=two", 0, 0);
        CHECK.same("it stays when the flag is off", names(x, 0), "c One/two ");
        renamed(x, "d=two", "d=3", 1, 0);
        CHECK.same("the one that equals it goes, not another", names(x, 0), "c One/3 ");
        renamed(x, "d=3", "i=1", 1, 0);
        CHECK.same("though the new one is of another type", names(x, 0), "c One 1");
        renamed(x, "i=1", "d=one", 1, 0);
        CHECK.same("the whole attribute", names(x, 0), "c One ");
    }

    private static void samePart() {
        CHECK.sentence("(unless the old and the new part have the same type and are equal)");
        for (int flag = 0; flag <= 1; flag++) {
            DirectorySession x = four();
            renamed(x, "n=a", "n= A", flag, 0);
            CHECK.same("it stays as it was", names(x, 0), "a One/two ");
            renamed(x, "d=e", "D=e", flag, 0);
            CHECK.same("and so does a description", names(x, 3), "e E ");
        }
        DirectorySession x = four();
        renamed(x, "d=e", "n=e", 1, 0);
        CHECK.same("an equal value of another type goes", names(x, 3), "e  ");
    }

    private static void newValueComesLast() {
        CHECK.sentence("and the new value is added (last, as it was given)");
        DirectorySession x = four();
        renamed(x, "n=a", "d= Th  E", 0, 0);
        CHECK.same("last and as given", names(x, 0), "a One/two/ Th  E ");
        renamed(x, "d=th e", "d=oNe", 0, 0);
        renamed(x, "d=one", "d=Zz", 1, 0);
        CHECK.same("last when the first goes", names(x, 0), "a two/ Th  E/Zz ");
        renamed(x, "d=zz", "N= qQ ", 0, 19);
        renamed(x, "d=zz", "I=-10", 1, 0);
        CHECK.same("a number", names(x, 0), "a two/ Th  E -10");
    }

    private static void withoutMarks() {
        CHECK.sentence("without a \\ that stands before , = or \\");
        DirectorySession x = four();
        renamed(x, "n=b", "n=\\,\\=\\\\\\,\\=\\\\", 1, 0);
        CHECK.same("six bytes", Wire.valueTexts(x, 2, 1), ",=\\,=\\");
        renamed(x, "n=\\,\\=\\\\\\,\\=\\\\", "n=\\\\", 1, 0);
        CHECK.same("a \\ alone", Wire.valueTexts(x, 2, 1), "\\");
        renamed(x, "n=\\\\", "n=\\\\\\\\", 1, 0);
        CHECK.same("two of them", Wire.valueTexts(x, 2, 1), "\\\\");
        renamed(x, "n=\\\\\\\\", "n=A\\,b", 1, 0);
        CHECK.same("among letters", Wire.valueTexts(x, 2, 1), "A,b");
    }

    private static void equalOneStays() {
        CHECK.sentence("when no equal one is there (else that stays as it was given)");
        for (int flag = 0; flag <= 1; flag++) {
            DirectorySession x = four();
            renamed(x, "d=e", "n= E ", flag, 0);
            CHECK.same("an equal name stays", Wire.valueTexts(x, 3, 1), "e");
            CHECK.same("the old part goes by the flag", x.values(3, 2), 1 - flag);
            renamed(x, "n=h,n=a", "i=5", 0, 0);
            CHECK.same("an equal number stays", Wire.valueTexts(x, 1, 3), "5");
        }
        DirectorySession x = four();
        renamed(x, "n=a", "d=ONE", 0, 0);
        CHECK.same("in its place", Wire.valueTexts(x, 0, 2), "One/two");
        renamed(x, "d=one", "d=TWO", 1, 0);
        CHECK.same("when another one goes too", Wire.valueTexts(x, 0, 2), "two");
    }

    private static void tooManyValues() {
        CHECK.sentence("19 too many values");
        DirectorySession x = four();
        renamed(x, "n=a", "n=c", 0, 19);
        renamed(x, "n=a", "d=3", 0, 0);
        renamed(x, "d=3", "d=4", 0, 19);
        renamed(x, "d=3", "d=4", 1, 0);
        renamed(x, "d=4", "i=1", 0, 0);
        renamed(x, "i=1", "i=2", 0, 19);
        renamed(x, "i=1", "d=5", 1, 19);
        renamed(x, "i=1", "i=2", 1, 0);
        renamed(x, "i=2", "i=2", 0, 0);
    }

    private static void schema() {
        CHECK.sentence("65 the schema");
        renamed(four(), "n=b", "i=1", 0, 65);
        renamed(four(), "n=b", "i=1", 1, 65);
        renamed(four(), "n=b", "d=1", 1, 65);
        renamed(four(), "n=b", "d=1", 0, 0);
        renamed(four(), "n=a", "i=1", 1, 65);
        renamed(four(), "n=a", "i=1", 0, 0);
        renamed(four(), "n=h,n=a", "i=5", 1, 65);
        DirectorySession x = four();
        renamed(x, "n=h,n=a", "i=5", 0, 0);
        renamed(x, "i=5,n=a", "n=h", 1, 65);
        renamed(x, "i=5,n=a", "i=6", 1, 0);
        renamed(x, "i=6,n=a", "n=h", 0, 0);
    }

    private static String found(DirectorySession x, int e) {
        Wire.ask(x, Wire.search("", 2, 0, Wire.and()));
        String all = new String(Wire.output(x), java.nio.charset.StandardCharsets.ISO_8859_1);
        int at = 0;
        for (int k = 0; k < e; k++) {
            at += 2 + all.charAt(at + 1);
        }
        return all.substring(at + 9, at + 9 + all.charAt(at + 8));
    }

    private static void newName() {
        CHECK.sentence("else 0: it has that new part (in the plain form as given now)");
        DirectorySession x = four();
        renamed(x, "n=b", "N=  Q  q", 1, 0);
        CHECK.same("plain", found(x, 2), "n=q q");
        CHECK.same("the value as given", Wire.valueTexts(x, 2, 1), "  Q  q");
        CHECK.same("the old name is none", Wire.ask(x, Wire.delete("n=b")), 32);
        CHECK.same("the new name is its", Wire.ask(x, Wire.compare("n=Q Q", "n", "q q")), 6);
        renamed(x, "n=q q", "d=X\\,", 0, 0);
        CHECK.same("another type", found(x, 2), "d=x\\,");
        CHECK.same("not by the old part though the value is there",
                Wire.ask(x, Wire.compare("n=q q", "n", "q q")), 32);
        CHECK.same("the old name is free", Wire.ask(x, Wire.add("n=q q", Wire.attribute("o", "g"),
                Wire.attribute("n", "q q"))), 0);
        renamed(x, "n=a", "i=-7", 0, 0);
        CHECK.same("a number as it is", found(x, 0), "i=-7");
        CHECK.same("its place stays", Wire.valueTexts(x, 0, 1), "a");
    }

    private static void namesBelow() {
        CHECK.sentence("and the names of all entries below it change with it");
        DirectorySession x = four();
        Wire.ask(x, Wire.add("n=k,n=h,n=a", Wire.attribute("o", "g"), Wire.attribute("n", "k")));
        renamed(x, "n=a", "n=Z z", 1, 0);
        CHECK.same("directly below", found(x, 1), "n=h,n=z z");
        CHECK.same("below that", found(x, 4), "n=k,n=h,n=z z");
        CHECK.same("not one beside it", found(x, 2), "n=b");
        CHECK.same("the old name", Wire.ask(x, Wire.delete("n=k,n=h,n=a")), 32);
        renamed(x, "n=h,n=z z", "i=5", 0, 0);
        CHECK.same("in the middle", found(x, 4), "n=k,i=5,n=z z");
        CHECK.same("parents stay", x.parent(0) + " " + x.parent(1) + " " + x.parent(4), "-1 0 1");
        CHECK.same("it is still a parent", Wire.ask(x, Wire.delete("n=z z")), 66);
        CHECK.same("the new name below", Wire.ask(x, Wire.delete("n=k,i=5,n=z z")), 0);
    }

    private static void boundStays() {
        CHECK.sentence("who was bound as it stays so, as by MODIFY");
        DirectorySession x = four();
        Wire.ask(x, Wire.bind(3, "n=h,n=a", "Key"));
        renamed(x, "n=h,n=a", "n=m", 1, 0);
        CHECK.same("renamed", x.bound(), 1);
        renamed(x, "n=a", "n=z", 1, 0);
        CHECK.same("renamed above", x.bound(), 1);
        CHECK.same("modified", Wire.ask(x, Wire.modify("n=m,n=z", 2, "s", "Other")) + x.bound(), 1);
        CHECK.same("the secret goes", Wire.ask(x, Wire.modify("n=m,n=z", 1, "s")) + x.bound(), 1);
        CHECK.same("another goes", Wire.ask(x, Wire.delete("n=b")) + x.bound(), 1);
    }
}
