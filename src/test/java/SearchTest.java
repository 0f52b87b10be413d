import java.util.List;
import java.util.Set;
import java.util.TreeSet;

/** Promises 7 to 10: SEARCH, its filters with three truth values, and what is written out. */
public final class SearchTest {
    private static final Check CHECK = new Check();
    private static final byte[] TRUE = Wire.and();
    private static final byte[] FALSE = Wire.or();
    private static final byte[] UNDEFINED = Wire.present("x");

    public static void main(String[] args) {
        scopes();
        limits();
        codes();
        writtenOut();
        lengthsAround128();
        longAnswers();
        leaves();
        numbers();
        threeValues();
        CHECK.finish();
    }

    /** a, b and c one below the other, then e at the root with the number -7. */
    private static DirectorySession four() {
        DirectorySession x = new DirectorySession();
        Wire.ask(x, Wire.add("n=a", Wire.attribute("o", "g"), Wire.attribute("n", "a")));
        Wire.ask(x, Wire.add("n=b,n=a", Wire.attribute("o", "g"), Wire.attribute("n", "b"),
                Wire.attribute("d", "One", "t  Wo")));
        Wire.ask(x, Wire.add("n=c,n=b,n=a", Wire.attribute("o", "h"), Wire.attribute("n", "c"),
                Wire.attribute("i", "12")));
        Wire.ask(x, Wire.add("i=-7", Wire.attribute("o", "X", "G"), Wire.attribute("n", "E"),
                Wire.attribute("i", "-7"), Wire.attribute("s", "k")));
        CHECK.same("four", x.entries(), 4);
        return x;
    }

    /** The names found are written as the last letters of their own parts. */
    private static String found(DirectorySession x, String base, int scope, int limit, byte[] filter) {
        Wire.ask(x, Wire.search(base, scope, limit, filter));
        byte[] all = Wire.output(x);
        StringBuilder names = new StringBuilder();
        int at = 0;
        for (int k = 0; k < x.found(); k++) {
            // 0x30 L, the ID in three bytes, 0x64 L, 0x04 L, and three bytes of the name
            names.append((char) all[at + 11]);
            at += 2 + all[at + 1];
        }
        CHECK.same("the result's length", all.length - at, 14);
        return names.toString();
    }

    private static void scopes() {
        DirectorySession x = four();
        CHECK.same("root alone", found(x, "", 0, 0, TRUE), "");
        CHECK.same("below the root", found(x, "", 1, 0, TRUE), "a-");
        CHECK.same("all", found(x, "", 2, 0, TRUE), "abc-");
        CHECK.same("base a", found(x, "N=A", 0, 0, TRUE), "a");
        CHECK.same("directly below a", found(x, "n=a", 1, 0, TRUE), "b");
        CHECK.same("a and below", found(x, "n=a", 2, 0, TRUE), "abc");
        CHECK.same("b and below", found(x, "n=b,n=a", 2, 0, TRUE), "bc");
        CHECK.same("below c", found(x, "n=c,n=b,n=a", 1, 0, TRUE), "");
        CHECK.same("c and below", found(x, "n=c,n=b,n=a", 2, 0, TRUE), "c");
        CHECK.same("found", x.found(), 1);
    }

    private static void limits() {
        DirectorySession x = four();
        CHECK.same("limit 1", found(x, "", 2, 1, TRUE) + x.code(), "a4");
        CHECK.same("limit 3", found(x, "", 2, 3, TRUE) + x.code(), "abc4");
        CHECK.same("limit 4", found(x, "", 2, 4, TRUE) + x.code(), "abc-0");
        CHECK.same("limit 5", found(x, "", 2, 5, TRUE) + x.code(), "abc-0");
        CHECK.same("limit 32767", found(x, "", 2, 32767, TRUE) + x.code(), "abc-0");
        CHECK.same("limit 0", found(x, "", 2, 0, TRUE) + x.code(), "abc-0");
        CHECK.same("limit 1, one hit", found(x, "", 2, 1, Wire.equal("n", "B")) + x.code(), "b0");
        CHECK.same("limit 1, no hit", found(x, "", 2, 1, FALSE) + x.code(), "0");
        CHECK.same("limit 1, two hits", found(x, "", 2, 1, Wire.present("i")) + x.code(), "c4");
    }

    private static void codes() {
        DirectorySession x = four();
        found(x, "", 2, 0, TRUE);
        CHECK.same("found before", x.found(), 4);
        CHECK.same("no name", found(x, "q", 2, 0, TRUE) + x.code(), "34");
        CHECK.same("none found", x.found(), 0);
        found(x, "", 2, 0, TRUE);
        CHECK.same("no entry", found(x, "n=b", 2, 0, TRUE) + x.code(), "32");
        CHECK.same("none found then", x.found(), 0);
        found(x, "", 2, 0, TRUE);
        Wire.ask(x, Wire.delete("n=zz"));
        CHECK.same("another request leaves found", x.found(), 4);
        CHECK.same("but not the output", x.length(), 14);
    }

    private static void writtenOut() {
        DirectorySession x = four();
        Wire.ask(x, 200, Wire.search("", 2, 0, Wire.or(Wire.present("s"), Wire.present("d"))));
        CHECK.same("written out", Wire.outputHex(x), Wire.hex(Wire.join(
                Wire.found(200, "n=b,n=a", Wire.attribute("o", "g"), Wire.attribute("n", "b"),
                        Wire.attribute("d", "One", "t  Wo")),
                Wire.found(200, "i=-7", Wire.attribute("o", "X", "G"), Wire.attribute("n", "E"),
                        Wire.attribute("i", "-7"), Wire.attribute("s", "k")),
                Wire.result(200, 0x65, 0))));
        CHECK.same("its beginning", x.output(0), 0x3038020200C86432L);
        Wire.ask(x, Wire.rename("n=b,n=a", "d=T wo", 0));
        Wire.ask(x, Wire.search("n=a", 1, 0, TRUE));
        CHECK.same("the plain form", Wire.outputHex(x), Wire.hex(Wire.join(
                Wire.found(1, "d=t wo,n=a", Wire.attribute("o", "g"), Wire.attribute("n", "b"),
                        Wire.attribute("d", "One", "t  Wo")),
                Wire.result(1, 0x65, 0))));
    }

    private static void lengthsAround128() {
        Set<Integer> contents = new TreeSet<>();
        for (int size = 0; size < 24; size++) {
            String name = "\\,".repeat(1 + size % 6);
            String bare = ",".repeat(1 + size % 6);
            String[] d = {"111111", "222222", "3333".repeat(2).substring(0, 3 + size / 6)};
            DirectorySession x = new DirectorySession();
            Wire.ask(x, Wire.add("n=yy", Wire.attribute("o", "g"), Wire.attribute("n", "yy")));
            Wire.ask(x, Wire.add("n=z,n=yy", Wire.attribute("o", "h"), Wire.attribute("n", "z"),
                    Wire.attribute("i", "1"), Wire.attribute("s", "123456")));
            Wire.ask(x, Wire.add("n=a,n=z,n=yy", Wire.attribute("o", "h", "x"),
                    Wire.attribute("n", "a"), Wire.attribute("i", "-9999"),
                    Wire.attribute("s", "123456"), Wire.attribute("d", d)));
            Wire.ask(x, Wire.rename("n=a,n=z,n=yy", "n=" + name, 1));
            Wire.ask(x, Wire.rename("n=z,n=yy", "n=\\=\\=\\=\\=\\=\\=", 1));
            Wire.ask(x, Wire.search("", 2, 0, Wire.present("d")));
            byte[] due = Wire.found(1, "n=" + name + ",n=\\=\\=\\=\\=\\=\\=,n=yy",
                    Wire.attribute("o", "h", "x"), Wire.attribute("n", bare),
                    Wire.attribute("d", d), Wire.attribute("i", "-9999"),
                    Wire.attribute("s", "123456"));
            int header = due[1] == (byte) 0x81 ? 3 : 2;
            contents.add(due.length - header);
            int inner = header + 3;
            contents.add(due.length - inner - (due[inner + 1] == (byte) 0x81 ? 3 : 2));
            CHECK.same("content of " + (due.length - header), Wire.outputHex(x),
                    Wire.hex(Wire.join(due, Wire.result(1, 0x65, 0))));
        }
        CHECK.holds("lengths around 128 " + contents,
                contents.containsAll(List.of(126, 127, 128, 129)));
    }

    /** Two entries one below the other and ten below them, all with the longest names and values. */
    private static void longAnswers() {
        DirectorySession x = new DirectorySession();
        String[] names = {"n=a", "n=b,n=a", ",n=b,n=a"};
        byte[] values = Wire.join(Wire.attribute("d", "111111", "222222", "333333"),
                Wire.attribute("i", "-9999"), Wire.attribute("s", "123456"));
        for (int k = 0; k < 12; k++) {
            String own = k == 0 ? "a" : k == 1 ? "b" : "" + k;
            Wire.ask(x, Wire.add(k < 2 ? names[k] : "n=" + k + names[2], Wire.attribute("o", "h", "x"),
                    Wire.attribute("n", own), values));
        }
        CHECK.same("twelve entries", x.entries(), 12);
        for (int k = 11; k >= 0; k--) {
            Wire.ask(x, Wire.rename(k < 2 ? names[k] : "n=" + k + names[2], "n=" + marked(k), 1));
            CHECK.same("a long name for " + k, x.code(), 0);
        }
        byte[] due = new byte[0];
        for (int k = 0; k < 12; k++) {
            String name = "n=" + marked(k) + (k > 1 ? ",n=" + marked(1) : "") + (k > 0 ? ",n=" + marked(0) : "");
            due = Wire.join(due, Wire.found(32767, name, Wire.attribute("o", "h", "x"),
                    Wire.attribute("n", marked(k).replaceAll("\\\\(.)", "$1")), values));
        }
        Wire.ask(x, 32767, Wire.search("", 2, 0, TRUE));
        due = Wire.join(due, Wire.result(32767, 0x65, 0));
        CHECK.same("twelve long entries", Wire.outputHex(x), Wire.hex(due));
        CHECK.same("found", x.found(), 12);
    }

    /** Six characters that all need a mark, other ones for each k. */
    private static String marked(int k) {
        String[] marks = {"\\,", "\\=", "\\\\"};
        return marks[0] + marks[1] + marks[2] + marks[k % 3] + marks[k / 3 % 3] + marks[k / 9 % 3];
    }

    private static void leaves() {
        DirectorySession x = four();
        CHECK.same("present", found(x, "", 2, 0, Wire.present("D")), "b");
        CHECK.same("present o", found(x, "", 2, 0, Wire.present("o")), "abc-");
        CHECK.same("equal", found(x, "", 2, 0, Wire.equal("D", " T WO ")), "b");
        CHECK.same("equal class", found(x, "", 2, 0, Wire.equal("o", "x")), "-");
        CHECK.same("equal number", found(x, "", 2, 0, Wire.equal("i", "12")), "c");
        CHECK.same("equal secret", found(x, "", 2, 0, Wire.equal("s", "k")), "-");
        CHECK.same("another secret", found(x, "", 2, 0, Wire.equal("s", "K")), "");
        CHECK.same("not present", found(x, "", 2, 0, Wire.not(Wire.present("d"))), "ac-");
        CHECK.same("not equal, where the type is missing too",
                found(x, "", 2, 0, Wire.not(Wire.equal("d", "one"))), "ac-");
        byte[][] undefined = {Wire.present(""), Wire.present("nn"), Wire.present("q"),
            Wire.equal("q", "a"), Wire.equal("", "a"), Wire.equal("nn", "a"), Wire.equal("n", ""),
            Wire.equal("n", "1234567"), Wire.equal("d", "  "), Wire.equal("i", "01"),
            Wire.equal("i", "x"), Wire.equal("o", "gg"), Wire.equal("o", "1"), Wire.equal("s", ""),
            Wire.atLeast("n", "a"), Wire.atMost("n", "a"), Wire.atLeast("o", "g"),
            Wire.atMost("d", "1"), Wire.atLeast("s", "1"), Wire.atLeast("i", "-0"),
            Wire.atMost("i", ""), Wire.atLeast("x", "1"), Wire.atMost("i", "12345")};
        for (byte[] filter : undefined) {
            x = four();
            CHECK.same("undefined " + Wire.hex(filter), found(x, "", 2, 0, filter), "");
            CHECK.same("not undefined " + Wire.hex(filter), found(x, "", 2, 0, Wire.not(filter)), "");
            CHECK.same("or true " + Wire.hex(filter),
                    found(x, "", 2, 0, Wire.or(filter, Wire.present("s"))), "-");
        }
    }

    private static void numbers() {
        DirectorySession x = four();
        String[] asked = {"-9999", "-8", "-7", "-6", "0", "11", "12", "13", "9999"};
        String[] least = {"c-", "c-", "c-", "c", "c", "c", "c", "", ""};
        String[] most = {"", "", "-", "-", "-", "-", "c-", "c-", "c-"};
        for (int k = 0; k < asked.length; k++) {
            CHECK.same("at least " + asked[k], found(x, "", 2, 0, Wire.atLeast("i", asked[k])), least[k]);
            CHECK.same("at most " + asked[k], found(x, "", 2, 0, Wire.atMost("I", asked[k])), most[k]);
        }
        CHECK.same("not at least", found(x, "", 2, 0, Wire.not(Wire.atLeast("i", "0"))), "ab-");
    }

    private static void threeValues() {
        byte[][] filters = {FALSE, UNDEFINED, TRUE};
        for (int a = 0; a < 3; a++) {
            truth("one " + a, filters[a], a);
            truth("not " + a, Wire.not(filters[a]), 2 - a);
            truth("and of " + a, Wire.and(filters[a]), a);
            truth("or of " + a, Wire.or(filters[a]), a);
            for (int b = 0; b < 3; b++) {
                truth("and " + a + b, Wire.and(filters[a], filters[b]), Math.min(a, b));
                truth("or " + a + b, Wire.or(filters[a], filters[b]), Math.max(a, b));
                for (int c = 0; c < 3; c++) {
                    int due = Math.max(Math.min(a, b), 2 - c);
                    truth("nested " + a + b + c, Wire.or(Wire.and(filters[a], filters[b]),
                            Wire.not(filters[c])), due);
                    truth("three " + a + b + c, Wire.and(filters[a], filters[b], filters[c]),
                            Math.min(a, Math.min(b, c)));
                }
            }
        }
    }

    /** Tells the three truths apart: true is found, false is found when it is turned round. */
    private static void truth(String what, byte[] filter, int due) {
        DirectorySession x = new DirectorySession();
        Wire.ask(x, Wire.add("n=a", Wire.attribute("o", "g"), Wire.attribute("n", "a")));
        CHECK.same(what + " true", found(x, "", 2, 0, filter), due == 2 ? "a" : "");
        CHECK.same(what + " false", found(x, "", 2, 0, Wire.not(filter)), due == 0 ? "a" : "");
    }
}
