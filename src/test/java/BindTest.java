/** Promises 3, 6 and 7: BIND, and who is bound afterwards. */
public final class BindTest {
    private static final Check CHECK = new Check();

    public static void main(String[] args) {
        codes();
        boundMoves();
        boundStays();
        closed();
        CHECK.finish();
    }

    /** n=a without a secret, n=b with the secret Key, n=c below it with 0 0. */
    private static DirectorySession three() {
        DirectorySession x = new DirectorySession();
        Wire.ask(x, Wire.add("n=a", Wire.attribute("o", "g"), Wire.attribute("n", "a")));
        Wire.ask(x, Wire.add("n=b", Wire.attribute("o", "h"), Wire.attribute("n", "b"),
                Wire.attribute("i", "1"), Wire.attribute("s", "Key")));
        Wire.ask(x, Wire.add("n=c,n=b", Wire.attribute("o", "g", "x"), Wire.attribute("n", "c"),
                Wire.attribute("s", "\0\0")));
        CHECK.same("three", x.entries(), 3);
        return x;
    }

    private static void bind(int due, int bound, int version, String name, String secret) {
        DirectorySession x = three();
        Wire.ask(x, Wire.bind(3, "n=b", "Key"));
        CHECK.same("bound before", x.bound(), 1);
        String what = "bind " + version + " " + name + " " + secret;
        CHECK.same(what, Wire.ask(x, Wire.bind(version, name, secret)), due);
        CHECK.same(what + " bound", x.bound(), bound);
        CHECK.same(what + " answer", Wire.outputHex(x), Wire.hex(Wire.result(1, 0x61, due)));
    }

    private static void codes() {
        for (int version : new int[] {2, 4, 0, -3, 259, 768, 32767, -32768}) {
            bind(2, 1, version, "", "");
            bind(2, 1, version, "n=c,n=b", "\0\0");
        }
        bind(0, -1, 3, "", "");
        bind(49, -1, 3, "", "k");
        bind(49, -1, 3, "no name", "Key");
        bind(49, -1, 3, "n=z", "Key");
        bind(49, -1, 3, "n=a", "Key");
        bind(49, -1, 3, "n=a", "");
        bind(49, -1, 3, "n=b", "");
        bind(49, -1, 3, "n=b", "key");
        bind(49, -1, 3, "n=b", "Key ");
        bind(49, -1, 3, "n=b", "KeyKeyKey");
        bind(49, -1, 3, "n=c,n=b", "\0");
        bind(49, -1, 3, "n=c,n=b", "\0\0\0");
        bind(0, 2, 3, "N=C,n=B ", "\0\0");
        bind(0, 1, 3, "N= b", "Key");
    }

    private static void boundMoves() {
        DirectorySession x = three();
        Wire.ask(x, Wire.bind(3, "n=c,n=b", "\0\0"));
        Wire.ask(x, Wire.delete("n=a"));
        CHECK.same("its place moves", x.bound(), 1);
        Wire.ask(x, Wire.delete("n=c,n=b"));
        CHECK.same("it is bound no more", x.bound(), -1);
        Wire.ask(x, Wire.add("n=c,n=b", Wire.attribute("o", "g"), Wire.attribute("n", "c")));
        CHECK.same("a new one is not bound", x.bound(), -1);
    }

    private static void boundStays() {
        DirectorySession x = three();
        Wire.ask(x, Wire.bind(3, "n=b", "Key"));
        Wire.ask(x, Wire.modify("n=b", 1, "s"));
        CHECK.same("by modify", x.bound(), 1);
        Wire.ask(x, Wire.rename("n=b", "n=d", 1));
        CHECK.same("by rename", x.bound(), 1);
        Wire.ask(x, Wire.delete("n=d"));
        CHECK.same("by a delete that fails", x.bound(), 1);
        Wire.ask(x, Wire.search("", 2, 0, Wire.and()));
        CHECK.same("by search", x.bound(), 1);
    }

    private static void closed() {
        DirectorySession x = three();
        Wire.ask(x, Wire.bind(3, "n=b", "Key"));
        Wire.feed(x, Wire.message(1, Wire.unbind()));
        CHECK.same("unbind: still bound", x.bound(), 1);
        x.connect();
        CHECK.same("connect: nobody", x.bound(), -1);
        Wire.ask(x, Wire.bind(3, "n=b", "Key"));
        x.feed(0, 1);
        CHECK.same("malformed: still bound", x.bound(), 1);
        x.connect();
        CHECK.same("connect again: nobody", x.bound(), -1);
        Wire.ask(x, Wire.bind(3, "n=b", "Key"));
        x.connect();
        CHECK.same("connect while it is open: nobody", x.bound(), -1);
    }
}
