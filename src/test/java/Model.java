import java.io.ByteArrayOutputStream;
import java.nio.charset.StandardCharsets;
import java.util.ArrayList;
import java.util.Arrays;
import java.util.List;
import java.util.Map;
import java.util.TreeMap;

/**
 * The document said a second time, with texts, lists and exceptions in place of rows of numbers,
 * so that the program can be held against it.
 */
final class Model {
    static final String TYPES = "ondis";

    static final class Malformed extends Exception {
        private static final long serialVersionUID = 1L;
    }

    static final class Item {
        Item parent;
        char partType;
        String partPlain;
        Map<Character, List<String>> attributes = new TreeMap<>();

        List<String> get(char type) {
            return attributes.getOrDefault(type, List.of());
        }

        boolean has(char type, String value) {
            return get(type).stream().anyMatch(v -> plain(type, v).equals(plain(type, value)));
        }

        String writtenName() {
            String value = partPlain.replace("\\", "\\\\").replace(",", "\\,").replace("=", "\\=");
            return partType + "=" + value + (parent == null ? "" : "," + parent.writtenName());
        }
    }

    /** What has been read of a value's content, and where that ends. */
    static final class Cursor {
        final byte[] all;
        int at;
        final int end;

        Cursor(byte[] all, int at, int end) {
            this.all = all;
            this.at = at;
            this.end = end;
        }

        int next() throws Malformed {
            if (at >= end) {
                throw new Malformed();
            }
            return all[at++] & 0xFF;
        }

        boolean more() {
            return at < end;
        }

        int peek() throws Malformed {
            int b = next();
            at--;
            return b;
        }

        Cursor inside(int tag) throws Malformed {
            if (next() != tag) {
                throw new Malformed();
            }
            int length = next();
            if (length == 0x81) {
                length = next();
            } else if (length > 127) {
                throw new Malformed();
            }
            if (at + length > end) {
                throw new Malformed();
            }
            Cursor result = new Cursor(all, at, at + length);
            at += length;
            return result;
        }

        void over() throws Malformed {
            if (more()) {
                throw new Malformed();
            }
        }

        String rest() throws Malformed {
            if (end - at > 30) {
                throw new Malformed();
            }
            String text = new String(all, at, end - at, StandardCharsets.ISO_8859_1);
            at = end;
            return text;
        }

        String text(int tag) throws Malformed {
            return inside(tag).rest();
        }

        int number() throws Malformed {
            Cursor c = inside(2);
            int size = c.end - c.at;
            if (size != 1 && size != 2) {
                throw new Malformed();
            }
            int first = c.next();
            return size == 1 ? (byte) first : (short) (first * 256 + c.next());
        }

        int one(int tag) throws Malformed {
            Cursor c = inside(tag);
            int b = c.next();
            c.over();
            return b;
        }

        List<String> values() throws Malformed {
            Cursor c = inside(0x31);
            List<String> list = new ArrayList<>();
            while (c.more()) {
                list.add(c.text(4));
            }
            if (list.size() > 8) {
                throw new Malformed();
            }
            return list;
        }
    }

    static final class Filter {
        int kind;
        List<Filter> inner = new ArrayList<>();
        String type;
        String value;
    }

    boolean open = true;
    final ByteArrayOutputStream kept = new ByteArrayOutputStream();
    Item bound;
    int code = -1;
    int found = 0;
    byte[] output = new byte[0];
    final List<Item> entries = new ArrayList<>();
    private int filterCount;

    void connect() {
        open = true;
        bound = null;
        kept.reset();
    }

    int feed(byte[] all) {
        int done = 0;
        for (byte b : all) {
            if (open) {
                kept.write(b);
                done += judge();
            }
        }
        return done;
    }

    private int judge() {
        byte[] all = kept.toByteArray();
        int size = all.length;
        boolean wrong = (all[0] & 0xFF) != 0x30;
        int whole = -1;
        if (!wrong && size >= 2) {
            int length = all[1] & 0xFF;
            if (length < 128) {
                whole = 2 + length;
            } else if (length != 0x81) {
                wrong = true;
            } else if (size >= 3) {
                whole = 3 + (all[2] & 0xFF);
                wrong = (all[2] & 0xFF) > 150;
            }
        }
        if (!wrong && size != whole) {
            return 0;
        }
        kept.reset();
        output = new byte[0];
        try {
            if (wrong) {
                throw new Malformed();
            }
            message(new Cursor(all, 0, size).inside(0x30));
        } catch (Malformed m) {
            output = Wire.bytes(0x30, 0x0C, 2, 1, 0, 0x78, 7, 0x0A, 1, 2, 4, 0, 4, 0);
            open = false;
        }
        return 1;
    }

    private void message(Cursor c) throws Malformed {
        int id = c.number();
        if (id < 1) {
            throw new Malformed();
        }
        int tag = c.peek();
        Cursor r = c.inside(tag);
        c.over();
        int answer;
        int result;
        switch (tag) {
            case 0x60: {
                int version = r.number();
                String name = r.text(4);
                String secret = r.text(0x80);
                r.over();
                answer = 0x61;
                result = bind(version, name, secret);
                break;
            }
            case 0x42:
                r.over();
                open = false;
                return;
            case 0x4A:
                answer = 0x6B;
                result = delete(r.rest());
                break;
            case 0x6E: {
                String name = r.text(4);
                Cursor pair = r.inside(0x30);
                String type = pair.text(4);
                String value = pair.text(4);
                pair.over();
                r.over();
                answer = 0x6F;
                result = compare(name, type, value);
                break;
            }
            case 0x68: {
                String name = r.text(4);
                Cursor list = r.inside(0x30);
                r.over();
                List<String> types = new ArrayList<>();
                List<List<String>> values = new ArrayList<>();
                while (list.more()) {
                    Cursor a = list.inside(0x30);
                    types.add(a.text(4));
                    values.add(a.values());
                    a.over();
                    if (values.get(values.size() - 1).isEmpty()) {
                        throw new Malformed();
                    }
                }
                answer = 0x69;
                result = add(name, types, values);
                break;
            }
            case 0x66: {
                String name = r.text(4);
                int change = upToTwo(r.one(0x0A));
                String type = r.text(4);
                List<String> values = r.values();
                r.over();
                answer = 0x67;
                result = modify(name, change, type, values);
                break;
            }
            case 0x6C: {
                String name = r.text(4);
                String part = r.text(4);
                int flag = r.one(1);
                r.over();
                answer = 0x6D;
                result = rename(name, part, flag != 0);
                break;
            }
            case 0x63: {
                String base = r.text(4);
                int scope = upToTwo(r.one(0x0A));
                int limit = r.number();
                filterCount = 0;
                Filter filter = filter(r, 1);
                r.over();
                if (limit < 0) {
                    throw new Malformed();
                }
                answer = 0x65;
                result = search(id, base, scope, limit, filter);
                break;
            }
            default:
                throw new Malformed();
        }
        code = result;
        output = Wire.join(output, Wire.result(id, answer, result));
    }

    private static int upToTwo(int choice) throws Malformed {
        if (choice > 2) {
            throw new Malformed();
        }
        return choice;
    }

    private Filter filter(Cursor c, int depth) throws Malformed {
        filterCount++;
        if (depth > 6 || filterCount > 12) {
            throw new Malformed();
        }
        Filter f = new Filter();
        f.kind = c.peek();
        Cursor in = c.inside(f.kind);
        switch (f.kind) {
            case 0xA0:
            case 0xA1:
                while (in.more()) {
                    f.inner.add(filter(in, depth + 1));
                }
                break;
            case 0xA2:
                f.inner.add(filter(in, depth + 1));
                break;
            case 0xA3:
            case 0xA5:
            case 0xA6:
                f.type = in.text(4);
                f.value = in.text(4);
                break;
            case 0x87:
                f.type = in.rest();
                break;
            default:
                throw new Malformed();
        }
        in.over();
        return f;
    }

    /** The type's small letter, 0 when it is none. */
    static char type(String text) {
        String small = small(text);
        return small.length() == 1 && TYPES.contains(small) ? small.charAt(0) : 0;
    }

    private static String small(String text) {
        StringBuilder all = new StringBuilder(text);
        for (int k = 0; k < all.length(); k++) {
            if (all.charAt(k) >= 'A' && all.charAt(k) <= 'Z') {
                all.setCharAt(k, (char) (all.charAt(k) + 32));
            }
        }
        return all.toString();
    }

    static boolean fits(char type, String value) {
        switch (type) {
            case 'o':
                return value.matches("[A-Za-z]");
            case 'n':
            case 'd':
                return value.matches("[ -~]{1,6}") && !value.matches(" *");
            case 'i':
                return value.matches("0|-?[1-9][0-9]{0,3}");
            default:
                return value.length() >= 1 && value.length() <= 6;
        }
    }

    static String plain(char type, String value) {
        switch (type) {
            case 'o':
                return small(value);
            case 'n':
            case 'd':
                return small(value).replaceAll("^ +| +$", "").replaceAll(" +", " ");
            default:
                return value;
        }
    }

    static int most(char type) {
        return type == 'd' || type == 'o' ? 3 : 1;
    }

    /** The parts, each a letter and the value without marks; null when it is no name. */
    static List<String> name(String text) {
        List<String> parts = new ArrayList<>();
        if (text.isEmpty()) {
            return parts;
        }
        String part = "(?s)[ndiNDI]=(?:[^,=\\\\]|\\\\[,=\\\\])*";
        if (!text.matches(part + "(?:," + part + ")*")) {
            return null;
        }
        StringBuilder one = new StringBuilder();
        for (int k = 0; k < text.length(); k++) {
            char c = text.charAt(k);
            if (c == ',') {
                parts.add(one.toString());
                one.setLength(0);
            } else {
                if (c == '\\') {
                    k++;
                }
                one.append(text.charAt(k));
            }
        }
        parts.add(one.toString());
        for (int k = 0; k < parts.size(); k++) {
            String p = parts.get(k);
            char type = type(p.substring(0, 1));
            if (!fits(type, p.substring(2))) {
                return null;
            }
            parts.set(k, type + p.substring(2));
        }
        return parts.size() > 3 ? null : parts;
    }

    private static String path(List<String> parts) {
        StringBuilder all = new StringBuilder();
        for (String p : parts) {
            all.append(p.charAt(0)).append(plain(p.charAt(0), p.substring(1))).append('\n');
        }
        return all.toString();
    }

    private static String path(Item item) {
        return item == null ? "" : item.partType + item.partPlain + "\n" + path(item.parent);
    }

    private Item find(List<String> parts) {
        for (Item item : entries) {
            if (path(item).equals(path(parts))) {
                return item;
            }
        }
        return null;
    }

    private int bind(int version, String nameText, String secret) {
        if (version != 3) {
            return 2;
        }
        bound = null;
        if (nameText.isEmpty() && secret.isEmpty()) {
            return 0;
        }
        List<String> name = name(nameText);
        Item item = name == null ? null : find(name);
        if (item == null || !item.get('s').contains(secret)) {
            return 49;
        }
        bound = item;
        return 0;
    }

    private static int valuesCode(char type, List<String> values) {
        for (int k = 0; k < values.size(); k++) {
            if (!fits(type, values.get(k))) {
                return 21;
            }
            for (int before = 0; before < k; before++) {
                if (plain(type, values.get(before)).equals(plain(type, values.get(k)))) {
                    return 20;
                }
            }
        }
        return 0;
    }

    private int add(String nameText, List<String> types, List<List<String>> values) {
        List<String> name = name(nameText);
        if (name == null) {
            return 34;
        }
        Item item = new Item();
        for (int k = 0; k < types.size(); k++) {
            char type = type(types.get(k));
            if (type == 0) {
                return 17;
            }
            if (item.attributes.containsKey(type)) {
                return 20;
            }
            int wrong = valuesCode(type, values.get(k));
            if (wrong != 0) {
                return wrong;
            }
            if (values.get(k).size() > most(type)) {
                return 19;
            }
            item.attributes.put(type, values.get(k));
        }
        if (name.isEmpty() || find(name) != null) {
            return 68;
        }
        List<String> rest = name.subList(1, name.size());
        item.parent = find(rest);
        if (!rest.isEmpty() && item.parent == null) {
            return 32;
        }
        if (entries.size() == 12) {
            return 53;
        }
        if (!schema(item)) {
            return 65;
        }
        takePart(item, name.get(0));
        if (!item.has(item.partType, item.partPlain)) {
            return 64;
        }
        entries.add(item);
        return 0;
    }

    private static void takePart(Item item, String part) {
        item.partType = part.charAt(0);
        item.partPlain = plain(item.partType, part.substring(1));
    }

    private static String classes(Item item) {
        StringBuilder all = new StringBuilder();
        item.get('o').stream().map(Model::small).sorted().forEach(all::append);
        return all.toString();
    }

    static boolean schema(Item item) {
        StringBuilder present = new StringBuilder();
        for (char t : TYPES.toCharArray()) {
            present.append(item.get(t).isEmpty() ? "" : t);
        }
        switch (classes(item)) {
            case "g":
                return present.toString().matches("ond?");
            case "gx":
                return present.toString().matches("ond?i?s?");
            case "h":
            case "hx":
                return present.toString().matches("ond?is?");
            default:
                return false;
        }
    }

    private int delete(String nameText) {
        List<String> name = name(nameText);
        if (name == null) {
            return 34;
        }
        Item item = find(name);
        if (item == null) {
            return 32;
        }
        if (entries.stream().anyMatch(e -> e.parent == item)) {
            return 66;
        }
        entries.remove(item);
        bound = bound == item ? null : bound;
        return 0;
    }

    private static Item copy(Item item) {
        Item copy = new Item();
        copy.parent = item.parent;
        copy.partType = item.partType;
        copy.partPlain = item.partPlain;
        item.attributes.forEach((t, v) -> copy.attributes.put(t, new ArrayList<>(v)));
        return copy;
    }

    private static void put(Item item, char type, List<String> values) {
        if (values.isEmpty()) {
            item.attributes.remove(type);
        } else {
            item.attributes.put(type, values);
        }
    }

    private int modify(String nameText, int change, String typeText, List<String> values) {
        List<String> name = name(nameText);
        if (name == null) {
            return 34;
        }
        Item item = find(name);
        if (item == null) {
            return 32;
        }
        char type = type(typeText);
        if (type == 0) {
            return 17;
        }
        int wrong = valuesCode(type, values);
        if (wrong != 0) {
            return wrong;
        }
        List<String> next = new ArrayList<>(item.get(type));
        if (change == 0) {
            if (values.isEmpty()) {
                return 2;
            }
            if (values.stream().anyMatch(v -> item.has(type, v))) {
                return 20;
            }
            next.addAll(values);
        } else if (change == 1) {
            if (next.isEmpty() || !values.stream().allMatch(v -> item.has(type, v))) {
                return 16;
            }
            next.removeIf(there -> values.isEmpty() || values.stream()
                    .anyMatch(v -> plain(type, v).equals(plain(type, there))));
        } else {
            next = new ArrayList<>(values);
        }
        if (change != 1 && next.size() > most(type)) {
            return 19;
        }
        Item after = copy(item);
        put(after, type, next);
        if (!after.has(item.partType, item.partPlain)) {
            return 67;
        }
        if (!classes(after).replaceAll("[^gh]", "").equals(classes(item).replaceAll("[^gh]", ""))) {
            return 69;
        }
        if (!schema(after)) {
            return 65;
        }
        item.attributes = after.attributes;
        return 0;
    }

    private int rename(String nameText, String partText, boolean oldGoes) {
        List<String> name = name(nameText);
        List<String> part = name(partText);
        if (name == null || part == null || part.size() != 1) {
            return 34;
        }
        Item item = find(name);
        if (item == null) {
            return 32;
        }
        List<String> newName = new ArrayList<>(name);
        newName.set(0, part.get(0));
        Item there = find(newName);
        if (there != null && there != item) {
            return 68;
        }
        char type = part.get(0).charAt(0);
        String value = part.get(0).substring(1);
        Item after = copy(item);
        boolean same = type == item.partType && plain(type, value).equals(item.partPlain);
        if (oldGoes && !same) {
            List<String> left = new ArrayList<>(item.get(item.partType));
            left.removeIf(v -> plain(item.partType, v).equals(item.partPlain));
            put(after, item.partType, left);
        }
        if (!after.has(type, value)) {
            List<String> more = new ArrayList<>(after.get(type));
            more.add(value);
            put(after, type, more);
        }
        if (after.get(type).size() > most(type)) {
            return 19;
        }
        if (!schema(after)) {
            return 65;
        }
        item.attributes = after.attributes;
        takePart(item, part.get(0));
        return 0;
    }

    private int compare(String nameText, String typeText, String value) {
        List<String> name = name(nameText);
        if (name == null) {
            return 34;
        }
        Item item = find(name);
        if (item == null) {
            return 32;
        }
        char type = type(typeText);
        if (type == 0) {
            return 17;
        }
        if (!fits(type, value)) {
            return 21;
        }
        if (item.get(type).isEmpty()) {
            return 16;
        }
        return item.has(type, value) ? 6 : 5;
    }

    private int search(int id, String nameText, int scope, int limit, Filter filter) {
        found = 0;
        List<String> name = name(nameText);
        if (name == null) {
            return 34;
        }
        Item base = find(name);
        if (base == null && !name.isEmpty()) {
            return 32;
        }
        List<Item> hits = new ArrayList<>();
        for (Item item : entries) {
            boolean below = path(item).endsWith("\n" + path(base)) && item != base || base == null;
            boolean in = scope == 0 ? item == base
                    : scope == 1 ? item.parent == base : below || item == base;
            if (in && Boolean.TRUE.equals(truth(filter, item))) {
                hits.add(item);
            }
        }
        boolean cut = limit != 0 && hits.size() > limit;
        for (Item item : cut ? hits.subList(0, limit) : hits) {
            output = Wire.join(output, written(id, item));
            found++;
        }
        return cut ? 4 : 0;
    }

    private static byte[] written(int id, Item item) {
        List<byte[]> all = new ArrayList<>();
        for (char t : TYPES.toCharArray()) {
            if (!item.get(t).isEmpty()) {
                all.add(Wire.attribute(String.valueOf(t), item.get(t).toArray(new String[0])));
            }
        }
        return Wire.found(id, item.writtenName(), all.toArray(new byte[0][]));
    }

    /** Null is undefined. */
    private static Boolean truth(Filter f, Item item) {
        if (f.kind == 0xA2) {
            Boolean inner = truth(f.inner.get(0), item);
            return inner == null ? null : (Boolean) !inner;
        }
        if (f.kind == 0xA0 || f.kind == 0xA1) {
            Boolean strong = f.kind == 0xA1;
            List<Boolean> all = new ArrayList<>();
            f.inner.forEach(inner -> all.add(truth(inner, item)));
            return all.contains(strong) ? strong : all.contains(null) ? null : (Boolean) !strong;
        }
        char type = type(f.type);
        if (type == 0) {
            return null;
        }
        if (f.kind == 0x87) {
            return !item.get(type).isEmpty();
        }
        if (!fits(type, f.value) || f.kind != 0xA3 && type != 'i') {
            return null;
        }
        if (f.kind == 0xA3) {
            return item.has(type, f.value);
        }
        int asked = Integer.parseInt(f.value);
        return item.get(type).stream().mapToInt(Integer::parseInt)
                .anyMatch(n -> f.kind == 0xA5 ? n >= asked : n <= asked);
    }

    /** All that can be asked of the session itself and its output, as one text. */
    String session() {
        return open + " " + kept.size() + " " + entries.indexOf(bound) + " " + code + " " + found + " "
                + entries.size() + " " + Wire.hex(output);
    }

    static String session(DirectorySession x) {
        return x.open() + " " + x.kept() + " " + x.bound() + " " + x.code() + " " + x.found() + " "
                + x.entries() + " " + Wire.outputHex(x);
    }

    /** How many calls session(x) takes when x is as the model. */
    int callsForSession() {
        return 7 + (output.length + 7) / 8;
    }

    /** All that can be asked of the entries, as one text. */
    String entries() {
        StringBuilder all = new StringBuilder();
        for (Item item : entries) {
            all.append(entries.indexOf(item.parent));
            for (char t : TYPES.toCharArray()) {
                all.append(' ').append(item.get(t).size());
                for (String v : item.get(t)) {
                    all.append(' ').append(Arrays.toString(Wire.latin(v)));
                }
            }
            all.append('\n');
        }
        return all.toString();
    }

    static String entries(DirectorySession x) {
        StringBuilder all = new StringBuilder();
        int count = x.entries();
        for (int e = 0; e < count; e++) {
            all.append(x.parent(e));
            for (int t = 0; t < TYPES.length(); t++) {
                int values = x.values(e, t);
                all.append(' ').append(values);
                for (int k = 0; k < values; k++) {
                    String value = Wire.valueText(x, e, t, k);
                    all.append(' ').append(Arrays.toString(Wire.latin(value == null ? "" : value)));
                }
            }
            all.append('\n');
        }
        return all.toString();
    }

    /** How many calls entries(x) takes when x is as the model. */
    int callsForEntries() {
        int calls = 1;
        for (Item item : entries) {
            calls += 1 + TYPES.length();
            for (List<String> values : item.attributes.values()) {
                for (String value : values) {
                    calls += value.length() + 1;
                }
            }
        }
        return calls;
    }
}
