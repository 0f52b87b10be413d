import java.lang.management.ManagementFactory;

/** That the dearest runs of calls make little: all calls of a run live in one room. */
public final class RoomTest {
    private static final Check CHECK = new Check();
    /** Two of the 512 calls are left to look at the object at the end. */
    private static final int MOST_CALLS = 510;
    /** So few bytes hold neither 600,000 objects, of 16 bytes at least, nor 7.3 million elements. */
    private static final long MOST_BYTES = 7_000_000;

    public static void main(String[] args) {
        byte[] all = Wire.message(1, Wire.search("", 2, 0, Wire.and()));
        byte[] one = Wire.not(Wire.not(Wire.equal("d", "111111")));
        byte[] deep = Wire.message(1, Wire.search("", 2, 0, Wire.or(one, one, one, Wire.present("n"))));
        room("searches for all", all);
        room("searches with many filters", deep);
        room("changes", Wire.join(Wire.message(1, Wire.modify("n=a", 2, "d", "1", "2", "3")),
                Wire.message(1, Wire.rename("n=a", "n=a", 1))));
        room("entries that come and go", Wire.join(Wire.message(1, Wire.delete("n=l")),
                Wire.message(1, Wire.add("n=l", Wire.attribute("o", "g"), Wire.attribute("n", "l")))));
        room("refused requests", Wire.message(1, Wire.add("n=a", Wire.attribute("n", "a", "b"))));
        CHECK.finish();
    }

    private static long bytesMade() {
        // The standard face of the bean does not tell this.
        return ((com.sun.management.ThreadMXBean) ManagementFactory.getThreadMXBean())
                .getThreadAllocatedBytes(Thread.currentThread().getId());
    }

    private static void room(String what, byte[] messages) {
        byte[][] first = new byte[12][];
        for (int k = 0; k < 12; k++) {
            String name = "" + (char) ('a' + k);
            first[k] = Wire.message(1, Wire.add("n=" + name, Wire.attribute("o", "g"), Wire.attribute("n", name),
                    Wire.attribute("d", "111111", "222222")));
        }
        long before = bytesMade();
        DirectorySession x = new DirectorySession();
        int calls = 0;
        for (byte[] message : first) {
            Wire.feed(x, message);
            calls += (message.length + 7) / 8;
        }
        int callsOfMessages = (messages.length + 7) / 8;
        for (; calls + callsOfMessages <= MOST_CALLS; calls += callsOfMessages) {
            Wire.feed(x, messages);
        }
        long made = bytesMade() - before;
        CHECK.same(what + ": entries", x.entries(), 12);
        CHECK.holds(what + ": still open", x.open());
        CHECK.holds(what + " make " + made + " bytes", made < MOST_BYTES);
    }
}
