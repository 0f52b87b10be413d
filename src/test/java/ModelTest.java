import java.util.Arrays;
import java.util.List;
import java.util.Map;
import java.util.Random;
import java.util.TreeMap;

/** All promises: long runs of made-up messages, right and wrong, held against the model. */
public final class ModelTest {
    private static final int RUNS = 5000;
    /** What an object answers after its 512th call is free. */
    private static final int MOST_CALLS = 512;
    /** To feed the longest message, to connect, and to look at two short answers. */
    private static final int CALLS_OF_A_MESSAGE = 60;
    private static final String[] TYPES = {"o", "n", "d", "i", "s", "O", "N", "D", "I", "S"};
    private static final String[] PARTS = {"n=a", "n=b", "N=A", "n=B ", "d=x", "i=1", "n= a  b",
        "d=\\,", "i=-7", "n=\\=\\\\", "D=X", "n=a b", "d=\\\\\\,\\=", "n=c", "i=25"};
    private static final String[] WRONG_PARTS = {"n=", "n", "o=g", "s=k", "n=a=b", "n=\\a", "n=a\\",
        "i=01", "n=1234567", "d=  ", "=a", "nn=a", "i=-0", "", " n=a", "n=a,", "i=\\-1", "n=\u00e9",
        "n=\\=\\=\\=\\=\\=\\=\\="};
    private static final String[][] VALUES = {
        {"g", "h", "x", "G", "H", "X", "g", "h", "x", "q", "Z"},
        {"a", "b", "A", "B ", " a  b", "a b", "=\\", "c"},
        {"x", "X", ",", "\\,=", "a", " y ", "z", "w", "v"},
        {"1", "-7", "25", "0", "9999", "-9999", "12"},
        {"k", "K", "key", "\0\u00ff", "123456"}};
    private static final String[] WRONG_VALUES = {"", "1234567", "   ", "01", "-0", "-", "12345",
        "+1", "\u007f", "a\tb", "gg", "1 ", "@", "{", "1:", "/", "00", "-01"};

    private final Random random;
    private final Map<Integer, Integer> codes;
    private final Model model = new Model();
    private int calls = 0;

    private ModelTest(long seed, Map<Integer, Integer> codes) {
        this.random = new Random(seed);
        this.codes = codes;
    }

    public static void main(String[] args) {
        Check check = new Check();
        Map<Integer, Integer> codes = new TreeMap<>();
        for (int run = 0; run < RUNS; run++) {
            new ModelTest(run, codes).run(check, run);
        }
        System.out.println("codes seen: " + codes);
        for (int code : new int[] {-1, 0, 2, 4, 5, 6, 16, 17, 19, 20, 21, 32, 34, 49, 53, 64, 65, 66,
            67, 68, 69}) {
            check.holds("code " + code + " is seen", codes.containsKey(code));
        }
        check.finish();
    }

    private void run(Check check, int run) {
        DirectorySession session = new DirectorySession();
        // Who is looked at seldom has calls left for more messages.
        int rest = 1 + random.nextInt(6);
        if (run % 4 == 0) {
            fill(session, random.nextInt(13));
        }
        for (int k = 0; calls + CALLS_OF_A_MESSAGE + model.callsForEntries() < MOST_CALLS; k++) {
            byte[] message = message();
            String what = "run " + run + " message " + k + " " + Wire.hex(message);
            calls += (message.length + 7) / 8;
            check.same(what + " done", Wire.feed(session, message), model.feed(message));
            codes.merge(model.open ? model.code : -1, 1, Integer::sum);
            boolean ended = !model.open || model.kept.size() > 0;
            if (ended || k % rest == 0) {
                lookAtSession(check, what, session);
            }
            if (ended || random.nextInt(60) == 0) {
                calls++;
                session.connect();
                model.connect();
                lookAtSession(check, what + " connected", session);
            }
            if (random.nextInt(20) == 0) {
                lookAtEntries(check, what, session);
            }
        }
        lookAtEntries(check, "run " + run + " at its end", session);
    }

    private void fill(DirectorySession session, int count) {
        for (int k = 0; k < count; k++) {
            byte[] message = Wire.message(1, Wire.add("n=" + k, Wire.attribute("o", "g"),
                    Wire.attribute("n", "" + k)));
            calls += (message.length + 7) / 8;
            Wire.feed(session, message);
            model.feed(message);
        }
    }

    private byte[] message() {
        byte[] message = Wire.message(1 + random.nextInt(300), request());
        while (message.length > 153) {
            message = Wire.message(1 + random.nextInt(300), request());
        }
        return random.nextInt(12) == 0 ? spoil(message) : message;
    }

    private void lookAtSession(Check check, String what, DirectorySession session) {
        if (calls + model.callsForSession() <= MOST_CALLS) {
            calls += model.callsForSession();
            check.same(what, Model.session(session), model.session());
        }
    }

    private void lookAtEntries(Check check, String what, DirectorySession session) {
        if (calls + model.callsForEntries() <= MOST_CALLS) {
            calls += model.callsForEntries();
            check.same(what + " entries", Model.entries(session), model.entries());
        }
    }

    private byte[] spoil(byte[] message) {
        byte[] result = message.clone();
        int place = random.nextInt(result.length);
        switch (random.nextInt(4)) {
            case 0:
                result[place] = (byte) random.nextInt(256);
                break;
            case 1:
                result[place] += random.nextBoolean() ? 1 : -1;
                break;
            case 2:
                result = Arrays.copyOf(result, place + 1);
                break;
            default:
                result = Wire.join(result, Wire.bytes(random.nextInt(256)));
                result[1]++;
                break;
        }
        return result;
    }

    private String pick(String[] from) {
        return from[random.nextInt(from.length)];
    }

    private boolean rarely() {
        return random.nextInt(25) == 0;
    }

    private String part() {
        return rarely() ? pick(WRONG_PARTS) : pick(PARTS);
    }

    /** Mostly the name of an entry that is there. */
    private String name() {
        String there = model.entries.isEmpty() ? ""
                : model.entries.get(random.nextInt(model.entries.size())).writtenName();
        if (there.isEmpty() || there.length() > 30 || random.nextInt(8) == 0) {
            return newName();
        }
        return random.nextInt(4) == 0 ? there.toUpperCase() : there;
    }

    /** Mostly a name of no entry, below one that is there. */
    private String nameToAdd() {
        String above = name();
        String name = part() + (above.isEmpty() ? "" : "," + above);
        return name.length() > 30 || random.nextInt(3) == 0 ? newName() : name;
    }

    private String newName() {
        int most = random.nextInt(3) == 0 ? 3 : 1;
        int parts = rarely() ? 4 : rarely() ? 0 : 1 + random.nextInt(most);
        if (parts == 0) {
            return "";
        }
        StringBuilder name = new StringBuilder(part());
        for (int k = 1; k < parts; k++) {
            name.append(',').append(part());
        }
        return name.length() > 30 ? part() : name.toString();
    }

    private String type() {
        return rarely() ? pick(new String[] {"", "x", "nn", "@", "n ", "\u00ee"}) : pick(TYPES);
    }

    private String value(String type) {
        int t = Model.TYPES.indexOf(type.toLowerCase());
        return t < 0 || type.length() != 1 || rarely() ? pick(WRONG_VALUES) : pick(VALUES[t]);
    }

    private String[] values(String type, int most) {
        String[] all = new String[random.nextInt(most + 1)];
        for (int k = 0; k < all.length; k++) {
            all[k] = value(type);
        }
        return all;
    }

    private String[] someValues(String type) {
        String[] all = values(type, "odOD".contains(type) && random.nextBoolean() ? 3 : 1);
        return all.length == 0 ? new String[] {value(type)} : all;
    }

    private byte[] request() {
        int kind = random.nextInt(100);
        if (kind < 35) {
            return random.nextInt(4) == 0 ? looseAdd() : add();
        }
        if (kind < 40) {
            return Wire.delete(name());
        }
        if (kind < 58) {
            String type = type();
            return Wire.modify(name(), random.nextInt(3), type,
                    values(type, random.nextInt(4) == 0 ? 8 : 2));
        }
        if (kind < 70) {
            return Wire.rename(name(), rarely() ? name() : part(), random.nextInt(3));
        }
        if (kind < 76) {
            String type = type();
            return Wire.compare(name(), type, value(type));
        }
        if (kind < 82) {
            return Wire.bind(random.nextInt(8) == 0 ? random.nextInt(5) : 3, name(),
                    rarely() ? "" : value("s"));
        }
        if (random.nextInt(60) == 0) {
            return random.nextBoolean() ? Wire.unbind() : Wire.bind(3, "", "");
        }
        return Wire.search(random.nextInt(3) > 0 ? "" : name(), random.nextInt(3),
                random.nextBoolean() ? 0 : random.nextInt(4), filter(1));
    }

    /** An entry that mostly fits the schema and its name. */
    private byte[] add() {
        String name = nameToAdd();
        List<String> parts = Model.name(name);
        byte[] all = Wire.attribute(pick(new String[] {"o", "O"}), pick(new String[] {"g", "h", "G"}));
        boolean more = random.nextBoolean();
        if (more) {
            all = Wire.attribute("o", random.nextBoolean() ? "g" : "h", "x");
        }
        for (String type : new String[] {"n", "d", "i", "s"}) {
            boolean named = parts != null && !parts.isEmpty() && parts.get(0).startsWith(type);
            if (named && !rarely()) {
                all = Wire.join(all, Wire.attribute(type, parts.get(0).substring(1)));
            } else if (type.equals("n") || random.nextInt(more ? 2 : 4) == 0) {
                all = Wire.join(all, Wire.attribute(type, someValues(type)));
            }
        }
        return Wire.add(name, all);
    }

    private byte[] looseAdd() {
        byte[] all = new byte[0];
        for (int k = random.nextInt(5); k > 0; k--) {
            String type = type();
            all = Wire.join(all, Wire.attribute(type, someValues(type)));
        }
        return Wire.add(nameToAdd(), all);
    }

    private byte[] filter(int depth) {
        int kind = random.nextInt(10);
        String type = random.nextInt(3) == 0 ? "i" : type();
        if (kind < 4 && depth < 8) {
            byte[] all = new byte[0];
            for (int k = random.nextInt(4); k > 0; k--) {
                all = Wire.join(all, filter(depth + 1));
            }
            return all.length > 100 ? Wire.present(type) : kind < 2 ? Wire.and(all) : Wire.or(all);
        }
        if (kind < 6 && depth < 8) {
            return Wire.not(filter(depth + 1));
        }
        switch (random.nextInt(4)) {
            case 0:
                return Wire.atLeast(type, value(type));
            case 1:
                return Wire.atMost(type, value(type));
            case 2:
                return Wire.present(type);
            default:
                return Wire.equal(type, value(type));
        }
    }
}
