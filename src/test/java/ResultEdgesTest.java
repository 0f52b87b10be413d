/** The results: each code where it begins to apply, their order, and that a refused request changes nothing. */
public final class ResultEdgesTest {
    private static final Check CHECK = new Check();
    private static final byte[] G = Wire.attribute("o", "g");
    private static final byte[] NONE = new byte[0];

    public static void main(String[] args) {
        bind();
        boundUntilConnect();
        unbind();
        addInOrder();
        addAttributeByAttribute();
        addValueByValue();
        addFullToTheLast();
        delete();
        deleteOfTheBound();
        modifyInOrder();
        modifyValueByValue();
        modifyAdd();
        modifyDelete();
        modifyReplace();
        modifyOutcome();
        modifyOfANameByDescription();
        compareInOrder();
        CHECK.finish();
    }

    /** n=a with g, x and two descriptions; n=h below it with h, i and s; n=b with g alone. */
    private static DirectorySession three() {
        DirectorySession x = new DirectorySession();
        Wire.ask(x, Wire.add("n=a", Wire.attribute("o", "g", "x"), Wire.attribute("n", "a"),
                Wire.attribute("d", "One", "two")));
        Wire.ask(x, Wire.add("n=h,n=a", Wire.attribute("o", "h"), Wire.attribute("n", "h"),
                Wire.attribute("i", "5"), Wire.attribute("s", "Key")));
        Wire.ask(x, Wire.add("n=b", G, Wire.attribute("n", "b")));
        CHECK.same("three entries", x.entries(), 3);
        return x;
    }

    /** With a code other than 0, 4, 5 and 6 the entries stay as they are. */
    private static void asked(String what, DirectorySession x, byte[] request, int tag, int due) {
        String before = due == 0 ? null : Wire.everything(x);
        CHECK.same(what, Wire.ask(x, 77, request), due);
        CHECK.same(what + ": the answer", Wire.outputHex(x), Wire.hex(Wire.result(77, tag, due)));
        if (due != 0) {
            CHECK.same(what + ": all stays as it is", Wire.everything(x), before);
        }
    }

    private static int first(int... codes) {
        for (int code : codes) {
            if (code != 0) {
                return code;
            }
        }
        return 0;
    }

    private static void bind() {
        CHECK.sentence("BIND: 2 the version is not 3 (who was bound stays so); 0 the name and the secret are"
                + " both empty: nobody is bound then; 49: nobody is bound then; else 0: the entry is bound");
        String[] names = {"", "n=h,n=a", "N= H ,n=A", "n=a", "n=zz", "zz", "n=h"};
        String[] secrets = {"", "Key", "key", "Key ", "Ke", "KeyKey", "KeyKeyK"};
        for (int version : new int[] {3, 2, 4, 0, -3, 259}) {
            for (String name : names) {
                for (String secret : secrets) {
                    boolean nobody = name.isEmpty() && secret.isEmpty();
                    boolean right = name.toLowerCase().contains("h") && name.contains(",") && secret.equals("Key");
                    int due = version != 3 ? 2 : nobody || right ? 0 : 49;
                    for (int before : new int[] {-1, 1}) {
                        DirectorySession x = three();
                        Wire.ask(x, before < 0 ? Wire.bind(3, "", "") : Wire.bind(3, "n=h,n=a", "Key"));
                        CHECK.same("bound before", x.bound(), before);
                        String what = "bind " + version + " " + name + " " + secret;
                        CHECK.same(what, Wire.ask(x, Wire.bind(version, name, secret)), due);
                        int bound = due == 2 ? before : right ? 1 : -1;
                        CHECK.same(what + ": bound", x.bound(), bound);
                    }
                }
            }
        }
        DirectorySession x = new DirectorySession();
        CHECK.same("no entries", Wire.ask(x, Wire.bind(3, "n=a", "k")), 49);
        CHECK.same("no entries, nobody", Wire.ask(x, Wire.bind(3, "", "")), 0);
    }

    private static void boundUntilConnect() {
        CHECK.sentence("When the session is closed, who was bound stays so until connect()");
        byte[][] closing = {Wire.message(1, Wire.unbind()), Wire.bytes(0), Wire.bytes(0x30, 0)};
        for (byte[] bytes : closing) {
            DirectorySession x = three();
            Wire.ask(x, Wire.bind(3, "n=h,n=a", "Key"));
            Wire.feed(x, bytes);
            CHECK.same("closed", x.open(), false);
            CHECK.same("still bound", x.bound(), 1);
            Wire.feed(x, Wire.message(1, Wire.bind(3, "", "")));
            CHECK.same("bytes that are ignored", x.bound(), 1);
            x.connect();
            CHECK.same("connected", x.bound(), -1);
        }
    }

    private static void unbind() {
        CHECK.sentence("UNBIND: the session is closed, and the output is empty");
        DirectorySession x = three();
        String before = Wire.everything(x);
        int code = x.code();
        CHECK.same("it counts", Wire.feed(x, Wire.message(1, Wire.unbind())), 1);
        CHECK.same("closed", x.open(), false);
        CHECK.same("length", x.length(), 0);
        CHECK.same("output", x.output(0), 0L);
        CHECK.same("code", x.code(), code);
        CHECK.same("found", x.found(), 3);
        x.connect();
        CHECK.same("the entries", Wire.everything(x), before);
    }

    private static DirectorySession withEntries(int count) {
        DirectorySession x = new DirectorySession();
        for (int k = 0; k < count; k++) {
            Wire.ask(x, Wire.add("n=" + k, G, Wire.attribute("n", "" + k)));
        }
        CHECK.same("entries", x.entries(), count);
        return x;
    }

    private static byte[] d(String... values) {
        return Wire.attribute("d", values);
    }

    private static void addInOrder() {
        CHECK.sentence("ADD: 34; for each attribute 17, 20, 21, 20, 19; 68; 32; 53; 65; 64; else 0");
        String[] names = {"n=y", "y", "", "n=0", "n=y,n=z", "n=y,n=0"};
        int[] nameCodes = {0, 34, 68, 68, 32, 0};
        byte[][] faults = {NONE, Wire.attribute("x", "1"), Wire.attribute("N", "y"), d(""), d("q", "Q"),
            d("1", "2", "3", "4")};
        int[] faultCodes = {0, 17, 20, 21, 20, 19};
        for (int name = 0; name < names.length; name++) {
            for (int fault = 0; fault < faults.length; fault++) {
                for (int bits = 0; bits < 8; bits++) {
                    boolean full = (bits & 1) != 0;
                    boolean noClass = (bits & 2) != 0;
                    boolean otherValue = (bits & 4) != 0;
                    String value = otherValue ? "other" : names[name].equals("n=0") ? "0" : "y";
                    byte[] request = Wire.add(names[name], noClass ? NONE : G,
                            Wire.attribute("n", value), faults[fault]);
                    int where = nameCodes[name];
                    int due = first(where == 34 ? 34 : 0, faultCodes[fault], where, full ? 53 : 0,
                            noClass ? 65 : 0, otherValue ? 64 : 0);
                    DirectorySession x = withEntries(full ? 12 : 1);
                    String what = "add " + names[name] + " fault " + fault + " bits " + bits;
                    asked(what, x, request, 0x69, due);
                    CHECK.same(what + ": entries", x.entries(), (full ? 12 : 1) + (due == 0 ? 1 : 0));
                }
            }
        }
    }

    private static void addAttributeByAttribute() {
        CHECK.sentence("for the parts of a request: of its first attribute, then of its second, and so on");
        byte[][] faults = {Wire.attribute("x", "1"), Wire.attribute("n", "y"), d(""), d("q", "Q"),
            d("1", "2", "3", "4"), Wire.attribute("i", "1", "2"), Wire.attribute("s", "1", "")};
        int[] codes = {17, 20, 21, 20, 19, 19, 21};
        for (int a = 0; a < faults.length; a++) {
            for (int b = 0; b < faults.length; b++) {
                byte[] request = Wire.add("n=y", G, Wire.attribute("n", "y"), faults[a], faults[b]);
                asked("faults " + a + " and " + b, withEntries(1), request, 0x69, codes[a]);
            }
            byte[] request = Wire.add("n=y", Wire.attribute("n", "y"), G, faults[a]);
            asked("fault " + a + " alone", withEntries(1), request, 0x69, codes[a]);
        }
    }

    /** What is due for these values when nothing else is wrong. */
    private static int dueForValues(String[] values, int most) {
        java.util.Set<String> before = new java.util.HashSet<>();
        for (String value : values) {
            if (value.isEmpty() || value.length() > 6) {
                return 21;
            }
            if (!before.add(value.toLowerCase())) {
                return 20;
            }
        }
        return values.length > most ? 19 : 0;
    }

    /** All rows of up to four of these. */
    private static String[][] rows() {
        String[] letters = {"a", "A", "b", "c", "e", "", "1234567"};
        java.util.List<String[]> all = new java.util.ArrayList<>();
        for (int size = 1; size <= 4; size++) {
            int count = (int) Math.pow(letters.length, size);
            for (int row = 0; row < count; row++) {
                String[] values = new String[size];
                int rest = row;
                for (int k = 0; k < size; k++) {
                    values[k] = letters[rest % letters.length];
                    rest /= letters.length;
                }
                all.add(values);
            }
        }
        return all.toArray(new String[0][]);
    }

    private static void addValueByValue() {
        CHECK.sentence("then for each value 21 it has not the syntax, 20 an equal one stood before it,"
                + " and then 19 too many values");
        for (String[] values : rows()) {
            DirectorySession x = new DirectorySession();
            CHECK.same("d " + String.join("/", values), Wire.ask(x, Wire.add("n=y", G,
                    Wire.attribute("n", "y"), d(values))), dueForValues(values, 3));
            CHECK.same("n " + String.join("/", values), Wire.ask(x, Wire.add("n=zz", G,
                    Wire.attribute("n", values))), first(dueForValues(values, 1), 64));
        }
    }

    private static void addFullToTheLast() {
        CHECK.sentence("53 there are 12");
        for (int count = 0; count <= 12; count++) {
            DirectorySession x = withEntries(count);
            CHECK.same("with " + count, Wire.ask(x, Wire.add("n=y", G, Wire.attribute("n", "y"))),
                    count == 12 ? 53 : 0);
            CHECK.same("entries then", x.entries(), Math.min(12, count + 1));
        }
    }

    private static void delete() {
        CHECK.sentence("DELETE: 34; 32 there is no such entry (the root is none); 66 it is the parent of one; else 0");
        String[] names = {"b", "", "n=zz", "n=h", "n=b,n=a", "n=a", "N=A "};
        int[] codes = {34, 32, 32, 32, 32, 66, 66};
        for (int k = 0; k < names.length; k++) {
            asked("delete " + names[k], three(), Wire.delete(names[k]), 0x6B, codes[k]);
        }
        DirectorySession x = three();
        asked("delete the one below", x, Wire.delete("n=h,n=a"), 0x6B, 0);
        CHECK.same("it is there no more", x.entries(), 2);
        asked("once more", x, Wire.delete("n=h,n=a"), 0x6B, 32);
        asked("the parent of none", x, Wire.delete("n=a"), 0x6B, 0);
        asked("the last one", x, Wire.delete("n=b"), 0x6B, 0);
        CHECK.same("none is left", x.entries(), 0);
        asked("when there is none", x, Wire.delete("n=b"), 0x6B, 32);
    }

    private static void deleteOfTheBound() {
        CHECK.sentence("else 0: it is there no more (who was bound as it is bound no more)");
        DirectorySession x = three();
        Wire.ask(x, Wire.bind(3, "n=h,n=a", "Key"));
        Wire.ask(x, Wire.delete("n=b"));
        CHECK.same("another one goes", x.bound(), 1);
        Wire.ask(x, Wire.delete("n=h"));
        CHECK.same("none goes", x.bound(), 1);
        Wire.ask(x, Wire.delete("n=h,n=a"));
        CHECK.same("it goes", x.bound(), -1);
        Wire.ask(x, Wire.add("n=h,n=a", Wire.attribute("o", "h"), Wire.attribute("n", "h"),
                Wire.attribute("i", "5"), Wire.attribute("s", "Key")));
        CHECK.same("one that comes in its place is not bound", x.bound(), -1);
        CHECK.same("but may be", Wire.ask(x, Wire.bind(3, "n=h,n=a", "Key")) + x.bound(), 1);
    }

    private static void modifyInOrder() {
        CHECK.sentence("MODIFY: 34; 32; 17; then for each value 21 and 20");
        String[] names = {"n=a", "a", "", "n=zz", "n=h"};
        int[] nameCodes = {0, 34, 32, 32, 32};
        String[] types = {"d", "x", "", "dd"};
        String[][] values = {{"3"}, {""}, {"3", "3"}, {"3", "3", ""}, {"", "3", "3"}};
        int[] valueCodes = {0, 21, 20, 20, 21};
        for (int name = 0; name < names.length; name++) {
            for (String type : types) {
                for (int v = 0; v < values.length; v++) {
                    for (int change = 0; change <= 2; change++) {
                        int due = first(nameCodes[name], type.equals("d") ? 0 : 17, valueCodes[v],
                                change == 1 ? 16 : 0);
                        asked("modify " + names[name] + " " + change + " " + type + " values " + v, three(),
                                Wire.modify(names[name], change, type, values[v]), 0x67, due);
                    }
                }
                int none = first(nameCodes[name], type.equals("d") ? 0 : 17, 2);
                asked("modify " + names[name] + " add no " + type, three(),
                        Wire.modify(names[name], 0, type), 0x67, none);
            }
        }
    }

    private static void modifyValueByValue() {
        CHECK.sentence("MODIFY: for each value 21 and 20 as for ADD");
        for (String[] values : rows()) {
            DirectorySession x = withEntries(1);
            CHECK.same("replace d " + String.join("/", values),
                    Wire.ask(x, Wire.modify("n=0", 2, "d", values)), dueForValues(values, 3));
            DirectorySession y = withEntries(1);
            CHECK.same("add d " + String.join("/", values),
                    Wire.ask(y, Wire.modify("n=0", 0, "d", values)), dueForValues(values, 3));
            CHECK.same("delete s " + String.join("/", values), Wire.ask(y, Wire.modify("n=0", 1, "s", values)),
                    secretsOf(values));
        }
    }

    /** Secrets are equal when they are the same alone. */
    private static int secretsOf(String[] values) {
        java.util.Set<String> before = new java.util.HashSet<>();
        for (String value : values) {
            if (value.isEmpty() || value.length() > 6) {
                return 21;
            }
            if (!before.add(value)) {
                return 20;
            }
        }
        return 16;
    }

    private static void change(int due, String after, int change, String type, String... values) {
        DirectorySession x = three();
        String what = "modify " + change + " " + type + " " + String.join("/", values);
        asked(what, x, Wire.modify("n=a", change, type, values), 0x67, due);
        if (due == 0) {
            CHECK.same(what + ": values", Wire.valueTexts(x, 0, "ondis".indexOf(type)), after);
        }
    }

    private static void modifyAdd() {
        CHECK.sentence("for add: 2 there are no values, 20 one of them is there already, 19 too many");
        change(2, "", 0, "d");
        change(2, "", 0, "i");
        change(2, "", 0, "o");
        change(20, "", 0, "d", "one");
        change(20, "", 0, "d", " TWO ");
        change(20, "", 0, "d", "3", "ONE");
        change(20, "", 0, "d", "3", "4", "ONE");
        change(20, "", 0, "d", "3", "4", "5", "6", "7", "8", "9", "two");
        change(20, "", 0, "n", "A");
        change(20, "", 0, "n", "b", "A");
        change(19, "", 0, "n", "b");
        change(0, "One/two/3", 0, "d", "3");
        change(19, "", 0, "d", "3", "4");
        change(19, "", 0, "d", "3", "4", "5", "6", "7", "8", "9", "0");
        change(0, "5", 0, "i", "5");
        change(19, "", 0, "i", "5", "6");
        change(0, "k", 0, "s", "k");
        change(19, "", 0, "s", "k", "l");
        change(20, "", 0, "o", "X");
        change(19, "", 0, "o", "h", "q");
    }

    private static void modifyDelete() {
        CHECK.sentence("for delete: 16 the type, or one of the values, is not there (without values, all go)");
        change(16, "", 1, "i");
        change(16, "", 1, "s");
        change(16, "", 1, "i", "5");
        change(16, "", 1, "d", "3");
        change(16, "", 1, "d", "one", "3");
        change(16, "", 1, "d", "3", "one");
        change(16, "", 1, "d", "one", "two", "3");
        change(16, "", 1, "n", "a", "b");
        change(16, "", 1, "o", "g", "h");
        change(0, "two", 1, "d", "ONE");
        change(0, "One", 1, "d", "Two ");
        change(0, "", 1, "d", "two", "one");
        change(0, "", 1, "d");
        change(0, "g", 1, "o", "x");
    }

    private static void modifyReplace() {
        CHECK.sentence("for replace: 19 too many (without values, all go, if there are any)");
        change(19, "", 2, "d", "1", "2", "3", "4");
        change(19, "", 2, "d", "1", "2", "3", "4", "5", "6", "7", "8");
        change(0, "1/2/3", 2, "d", "1", "2", "3");
        change(0, "TWO/ONE", 2, "d", "TWO", "ONE");
        change(0, "", 2, "d");
        change(0, "", 2, "i");
        change(0, "", 2, "s");
        change(0, "5", 2, "i", "5");
        change(19, "", 2, "i", "5", "6");
        change(19, "", 2, "n", "a", "b");
        change(0, " A", 2, "n", " A");
    }

    private static void modifyOutcome() {
        CHECK.sentence("and then: 67 the first part of its name is not among the values any more;"
                + " 69 its structural classes are not those that it had; 65 the schema; else 0");
        change(67, "", 1, "n");
        change(67, "", 1, "n", "a");
        change(67, "", 2, "n");
        change(67, "", 2, "n", "b");
        change(69, "", 1, "o");
        change(69, "", 1, "o", "g");
        change(69, "", 1, "o", "g", "x");
        change(69, "", 2, "o");
        change(69, "", 2, "o", "h");
        change(69, "", 2, "o", "x");
        change(69, "", 2, "o", "q");
        change(69, "", 2, "o", "g", "h");
        change(69, "", 0, "o", "h");
        change(65, "", 0, "o", "q");
        change(65, "", 2, "o", "g", "q");
        change(0, "G", 2, "o", "G");
        change(0, "x/g", 2, "o", "x", "g");
        asked("h needs i", three(), Wire.modify("n=h,n=a", 1, "i", "5"), 0x67, 65);
        asked("h needs i in replace too", three(), Wire.modify("n=h,n=a", 2, "i"), 0x67, 65);
        asked("h to g", three(), Wire.modify("n=h,n=a", 2, "o", "g"), 0x67, 69);
        asked("g may not have i", three(), Wire.modify("n=b", 0, "i", "1"), 0x67, 65);
        asked("g may not have s", three(), Wire.modify("n=b", 2, "s", "1"), 0x67, 65);
        DirectorySession x = three();
        asked("g with x may", x, Wire.modify("n=a", 2, "s", "1"), 0x67, 0);
        asked("then x may not go", x, Wire.modify("n=a", 1, "o", "x"), 0x67, 65);
        asked("nor by replace", x, Wire.modify("n=a", 2, "o", "g"), 0x67, 65);
    }

    private static void modifyOfANameByDescription() {
        CHECK.sentence("67 the first part of its name, of whatever type, is not among the values any more");
        DirectorySession x = three();
        Wire.ask(x, Wire.rename("n=a", "d=two", 0));
        asked("a description in the name", x, Wire.modify("d=two", 1, "d", "TWO"), 0x67, 67);
        asked("all of them", x, Wire.modify("d=two", 1, "d"), 0x67, 67);
        asked("67 before 65", x, Wire.modify("d=two", 2, "d", "1"), 0x67, 67);
        asked("n need not stay for the name, but for the schema", x, Wire.modify("d=two", 1, "n"), 0x67, 65);
        asked("another description may go", x, Wire.modify("d=two", 1, "d", "one"), 0x67, 0);
        asked("the same in other letters", x, Wire.modify("d=two", 2, "d", " TWO"), 0x67, 0);
        CHECK.same("as it was given", Wire.valueTexts(x, 0, 2), " TWO");
    }

    private static void compareInOrder() {
        CHECK.sentence("COMPARE: 34; 32; 17; 21; 16 the entry has not that type; 6 one of its values is equal; else 5");
        String[] names = {"n=a", "a", "", "n=zz"};
        int[] nameCodes = {0, 34, 32, 32};
        String[] types = {"d", "x", "", "i"};
        int[] typeCodes = {0, 17, 17, 0};
        String[] values = {"One", "two ", "3", "", "1234567"};
        for (int name = 0; name < names.length; name++) {
            for (int type = 0; type < types.length; type++) {
                for (String value : values) {
                    boolean number = types[type].equals("i");
                    boolean wrong = value.isEmpty() || value.length() > 6 || number && !value.equals("3");
                    int due = first(nameCodes[name], typeCodes[type], wrong ? 21 : 0, number ? 16 : 0,
                            value.equals("3") ? 5 : 6);
                    asked("compare " + names[name] + " " + types[type] + " '" + value + "'", three(),
                            Wire.compare(names[name], types[type], value), 0x6F, due);
                }
            }
        }
    }
}
