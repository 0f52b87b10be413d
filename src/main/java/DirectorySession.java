/**
 * A directory that is spoken to in bytes: requests come as nested tagged values, are decoded,
 * judged by a schema and done on a tree of entries; answers go out as bytes.
 *
 * Every row is made with the object and used again, so that no call makes anything new.
 */
public final class DirectorySession {
    private static final int NONE = -1;

    private static final int FLAG_TAG = 0x01;
    private static final int INT_TAG = 0x02;
    private static final int TEXT_TAG = 0x04;
    private static final int CHOICE_TAG = 0x0A;
    private static final int SEQUENCE_TAG = 0x30;
    private static final int VALUES_TAG = 0x31;
    private static final int FOUND_TAG = 0x64;
    private static final int SECRET_TAG = 0x80;

    private static final int SHORT_LENGTHS = 0x80;
    private static final int LONG_LENGTH = 0x81;

    private static final int BIND = 0x60;
    private static final int UNBIND = 0x42;
    private static final int DELETE = 0x4A;
    private static final int COMPARE = 0x6E;
    private static final int ADD = 0x68;
    private static final int MODIFY = 0x66;
    private static final int RENAME = 0x6C;
    private static final int SEARCH = 0x63;

    private static final int DONE = 0;
    private static final int PROTOCOL_ERROR = 2;
    private static final int LIMIT_EXCEEDED = 4;
    private static final int COMPARED_FALSE = 5;
    private static final int COMPARED_TRUE = 6;
    private static final int NO_SUCH_ATTRIBUTE = 16;
    private static final int NO_TYPE = 17;
    private static final int TOO_MANY_VALUES = 19;
    private static final int STOOD_BEFORE = 20;
    private static final int NOT_THE_SYNTAX = 21;
    private static final int NO_SUCH_ENTRY = 32;
    private static final int NO_NAME = 34;
    private static final int WRONG_SECRET = 49;
    private static final int TREE_IS_FULL = 53;
    private static final int NAME_NOT_AMONG_VALUES = 64;
    private static final int AGAINST_SCHEMA = 65;
    private static final int HAS_ENTRIES_BELOW = 66;
    private static final int NAME_WOULD_GO = 67;
    private static final int SUCH_ENTRY_EXISTS = 68;
    private static final int STRUCTURE_WOULD_CHANGE = 69;

    private static final int CLASSES = 0;
    private static final int NAME = 1;
    private static final int DESCRIPTION = 2;
    private static final int NUMBER = 3;
    private static final int SECRET = 4;
    private static final int TYPES = 5;
    private static final char[] TYPE_LETTERS = {'o', 'n', 'd', 'i', 's'};
    private static final int[] MOST_OF_TYPE = {3, 1, 3, 1, 1};
    private static final int MOST_OF_ANY_TYPE = 3;

    private static final int SCOPE_BASE = 0;
    private static final int SCOPE_CHILDREN = 1;

    private static final int CHANGE_ADD = 0;
    private static final int CHANGE_DELETE = 1;

    private static final int MOST_CONTENT = 150;
    private static final int MOST_MESSAGE = 3 + MOST_CONTENT;
    private static final int MOST_ENTRIES = 12;
    private static final int MOST_PARTS = 3;

    private static final int PROTOCOL_VERSION = 3;

    private int keptBytes = 0;
    private boolean isOpen = true;
    private Entry boundEntry = null;
    private int latestCode = NONE;
    private int latestFound = 0;
    private final Request request = new Request();
    private final Name name = new Name();
    private final Name newPart = new Name();
    private final Tree tree = new Tree();
    private final Editor editor = new Editor();
    private final Answer answer = new Answer();

    public DirectorySession() {
    }

    public int feed(long bytes, int n) {
        if (n < 1 || n > 8) {
            return -1;
        }
        int done = 0;
        for (int shift = 8 * (n - 1); shift >= 0 && isOpen && keptBytes < MOST_MESSAGE; shift -= 8) {
            request.bytes[keptBytes] = (int) (bytes >>> shift) & 0xFF;
            keptBytes++;
            if (keptBytes >= bytesToJudge()) {
                done++;
                endMessage(request.decode(keptBytes));
                if (isOpen) {
                    latestCode = perform();
                    answer.writeResult(request.id, request.kind, latestCode);
                }
            }
        }
        return done;
    }

    public void connect() {
        isOpen = true;
        boundEntry = null;
        keptBytes = 0;
    }

    public boolean open() {
        return isOpen;
    }

    public int kept() {
        return keptBytes;
    }

    public int bound() {
        return boundEntry == null ? NONE : tree.placeOf(boundEntry);
    }

    public int code() {
        return latestCode;
    }

    public int found() {
        return latestFound;
    }

    public int length() {
        return answer.size;
    }

    public long output(int k) {
        return answer.eightBytes(k);
    }

    public int entries() {
        return tree.count;
    }

    public int parent(int e) {
        Entry entry = tree.entryAt(e);
        if (entry == null) {
            return -2;
        }
        return entry.above == null ? NONE : tree.placeOf(entry.above);
    }

    public int values(int e, int t) {
        Entry entry = tree.entryAt(e);
        if (entry == null || t < 0 || t >= TYPES) {
            return NONE;
        }
        return entry.attributes[t].size;
    }

    public int value(int e, int t, int k, int j) {
        Entry entry = tree.entryAt(e);
        if (entry == null || t < 0 || t >= TYPES) {
            return NONE;
        }
        ValueRow row = entry.attributes[t];
        if (k < 0 || k >= row.size || j < 0 || j >= Packed.sizeOf(row.given[k])) {
            return NONE;
        }
        return Packed.byteAt(row.given[k], j);
    }

    /** At how many kept bytes the message is whole, or is known never to become one. */
    private int bytesToJudge() {
        if (request.bytes[0] != SEQUENCE_TAG) {
            return 1;
        }
        if (keptBytes < 2) {
            return 2;
        }
        int lengthByte = request.bytes[1];
        if (lengthByte < SHORT_LENGTHS) {
            return 2 + lengthByte;
        }
        if (lengthByte != LONG_LENGTH) {
            return 2;
        }
        if (keptBytes < 3 || request.bytes[2] > MOST_CONTENT) {
            return 3;
        }
        return 3 + request.bytes[2];
    }

    /** The session stays open only for a request that wants an answer. */
    private void endMessage(boolean wellFormed) {
        keptBytes = 0;
        answer.clear();
        if (!wellFormed) {
            answer.writeNotice();
        }
        isOpen = wellFormed && request.kind != UNBIND;
    }

    private int perform() {
        boolean named = name.read(request, 0);
        Entry entry = tree.find(name, 0);
        if (request.kind == BIND) {
            return bind(entry);
        }
        if (request.kind == SEARCH) {
            return search(named, entry);
        }
        if (!named) {
            return NO_NAME;
        }
        if (request.kind == ADD) {
            return editor.add(request, name, tree);
        }
        if (request.kind == RENAME) {
            boolean isPart = newPart.read(request, 1) && newPart.parts == 1;
            return isPart ? editor.rename(entry, newPart, request.flag, tree) : NO_NAME;
        }
        if (entry == null) {
            return NO_SUCH_ENTRY;
        }
        if (request.kind == MODIFY) {
            return editor.modify(request, entry);
        }
        return request.kind == DELETE ? delete(entry) : compare(entry);
    }

    private int bind(Entry entry) {
        if (request.number != PROTOCOL_VERSION) {
            return PROTOCOL_ERROR;
        }
        boundEntry = null;
        if (request.isEmpty(0) && request.isEmpty(1)) {
            return DONE;
        }
        if (entry == null || !entry.attributes[SECRET].has(request.packed(1))) {
            return WRONG_SECRET;
        }
        boundEntry = entry;
        return DONE;
    }

    private int delete(Entry entry) {
        if (tree.hasBelow(entry)) {
            return HAS_ENTRIES_BELOW;
        }
        if (boundEntry == entry) {
            boundEntry = null;
        }
        tree.remove(entry);
        return DONE;
    }

    private int compare(Entry entry) {
        int type = request.typeOf(1);
        if (type == NONE) {
            return NO_TYPE;
        }
        long plain = Syntax.plainOf(type, request.packed(2));
        if (plain == Packed.INVALID) {
            return NOT_THE_SYNTAX;
        }
        if (entry.attributes[type].size == 0) {
            return NO_SUCH_ATTRIBUTE;
        }
        return entry.attributes[type].has(plain) ? COMPARED_TRUE : COMPARED_FALSE;
    }

    private int search(boolean named, Entry base) {
        latestFound = 0;
        if (!named) {
            return NO_NAME;
        }
        if (base == null && name.parts > 0) {
            return NO_SUCH_ENTRY;
        }
        request.filters.readLeaves(request);
        for (int place = 0; place < tree.count; place++) {
            Entry entry = tree.order[place];
            if (inScope(entry, base) && request.filters.truthFor(entry) == Filters.TRUE) {
                if (request.number != 0 && latestFound == request.number) {
                    return LIMIT_EXCEEDED;
                }
                answer.writeEntry(request.id, entry);
                latestFound++;
            }
        }
        return DONE;
    }

    /** A base that is null is the root, which is above every entry and is none itself. */
    private boolean inScope(Entry entry, Entry base) {
        if (request.choice == SCOPE_BASE) {
            return entry == base;
        }
        if (request.choice == SCOPE_CHILDREN) {
            return entry.above == base;
        }
        return base == null || entry.isAtOrBelow(base);
    }

    /** A value's bytes in one long, so that values are kept and compared without objects. */
    private static final class Packed {
        static final long INVALID = -1L;
        static final long EMPTY = 0L;
        static final int MOST_BYTES = 6;
        private static final int SIZE_SHIFT = 48;
        private static final long BYTES_MASK = 0xFFFFFFFFFFFFL;

        static int sizeOf(long packed) {
            return (int) (packed >>> SIZE_SHIFT);
        }

        static int byteAt(long packed, int j) {
            int size = (int) (packed >>> SIZE_SHIFT);
            return (int) (packed >>> 8 * (size - 1 - j)) & 0xFF;
        }

        static long append(long packed, int b) {
            long size = (packed >>> SIZE_SHIFT) + 1;
            return size << SIZE_SHIFT | (packed << 8 | b) & BYTES_MASK;
        }

        /** No type has a value without bytes, or with more than fit: such a row is invalid. */
        static long of(int[] bytes, int start, int end) {
            if (end <= start || end - start > MOST_BYTES) {
                return INVALID;
            }
            long packed = EMPTY;
            for (int k = start; k < end; k++) {
                packed = append(packed, bytes[k]);
            }
            return packed;
        }

        /** The number that a value of the syntax of i writes. */
        static int numberOf(long packed) {
            int sign = 1;
            int number = 0;
            for (int shift = 8 * (MOST_BYTES - 1); shift >= 0; shift -= 8) {
                int c = (int) (packed >>> shift) & 0xFF;
                if (c == '-') {
                    sign = -1;
                } else if (c != 0) {
                    // Where a shorter value has no byte, there is a 0.
                    number = 10 * number + c - '0';
                }
            }
            return sign * number;
        }
    }

    /** Types, and the syntax and equality of their values. */
    private static final class Syntax {
        private static final int MOST_DIGITS = 4;

        static int smallLetter(int c) {
            return c >= 'A' && c <= 'Z' ? c + 'a' - 'A' : c;
        }

        static int typeOf(int letter) {
            int small = smallLetter(letter);
            for (int type = 0; type < TYPES; type++) {
                if (TYPE_LETTERS[type] == small) {
                    return type;
                }
            }
            return NONE;
        }

        /**
         * The form in which two values of the type are equal just when they are the same, or
         * INVALID when the value has not the syntax.
         */
        static long plainOf(int type, long given) {
            if (given == Packed.INVALID || given == Packed.EMPTY) {
                return Packed.INVALID;
            }
            switch (type) {
                case CLASSES:
                    return plainLetter(given);
                case NAME:
                case DESCRIPTION:
                    return plainText(given);
                case NUMBER:
                    return isNumber(given) ? given : Packed.INVALID;
                case SECRET:
                    return given;
                default:
                    return Packed.INVALID;
            }
        }

        private static long plainLetter(long given) {
            int letter = smallLetter(Packed.byteAt(given, 0));
            if (Packed.sizeOf(given) != 1 || letter < 'a' || letter > 'z') {
                return Packed.INVALID;
            }
            return Packed.append(Packed.EMPTY, letter);
        }

        private static long plainText(long given) {
            long plain = Packed.EMPTY;
            boolean spaceWaits = false;
            for (int j = 0; j < Packed.sizeOf(given); j++) {
                int c = Packed.byteAt(given, j);
                if (c < ' ' || c > '~') {
                    return Packed.INVALID;
                }
                if (c == ' ') {
                    // A space counts only between two other characters.
                    spaceWaits = plain != Packed.EMPTY;
                } else {
                    plain = spaceWaits ? Packed.append(plain, ' ') : plain;
                    plain = Packed.append(plain, smallLetter(c));
                    spaceWaits = false;
                }
            }
            return plain == Packed.EMPTY ? Packed.INVALID : plain;
        }

        private static boolean isNumber(long given) {
            int size = Packed.sizeOf(given);
            int first = Packed.byteAt(given, 0) == '-' ? 1 : 0;
            if (size - first < 1 || size - first > MOST_DIGITS) {
                return false;
            }
            for (int j = first; j < size; j++) {
                int c = Packed.byteAt(given, j);
                if (c < '0' || c > '9') {
                    return false;
                }
            }
            return size == 1 || Packed.byteAt(given, first) != '0';
        }
    }

    /** The values of one type, as they were given and in the form that tells equality. */
    private static final class ValueRow {
        final long[] given;
        final long[] plains;
        int size = 0;

        ValueRow(int room) {
            given = new long[room];
            plains = new long[room];
        }

        void clear() {
            size = 0;
        }

        boolean has(long plain) {
            for (int k = 0; k < size; k++) {
                if (plains[k] == plain) {
                    return true;
                }
            }
            return false;
        }

        void add(long asGiven, long plain) {
            if (size < given.length) {
                given[size] = asGiven;
                plains[size] = plain;
                size++;
            }
        }

        void addAll(ValueRow other) {
            for (int k = 0; k < other.size; k++) {
                add(other.given[k], other.plains[k]);
            }
        }

        void copy(ValueRow other) {
            size = Math.min(other.size, given.length);
            for (int k = 0; k < size; k++) {
                given[k] = other.given[k];
                plains[k] = other.plains[k];
            }
        }

        void remove(long plain) {
            int left = 0;
            for (int k = 0; k < size; k++) {
                if (plains[k] != plain) {
                    given[left] = given[k];
                    plains[left] = plains[k];
                    left++;
                }
            }
            size = left;
        }

        boolean hasAll(ValueRow other) {
            for (int k = 0; k < other.size; k++) {
                if (!has(other.plains[k])) {
                    return false;
                }
            }
            return true;
        }

        boolean hasAny(ValueRow other) {
            for (int k = 0; k < other.size; k++) {
                if (has(other.plains[k])) {
                    return true;
                }
            }
            return false;
        }

        void removeAll(ValueRow other) {
            for (int k = 0; k < other.size; k++) {
                remove(other.plains[k]);
            }
        }
    }

    private static final class Entry {
        private static final int CLASS_G = 1;
        private static final int CLASS_H = 2;
        private static final int CLASS_X = 4;
        private static final int CLASS_OTHER = 8;

        final ValueRow[] attributes = new ValueRow[TYPES];
        /** The parent; null is the root. */
        Entry above = null;
        int nameType = NAME;
        long namePlain = Packed.EMPTY;

        Entry(int room) {
            for (int type = 0; type < TYPES; type++) {
                attributes[type] = new ValueRow(room);
            }
        }

        void clear() {
            for (int type = 0; type < TYPES; type++) {
                attributes[type].clear();
            }
            above = null;
        }

        void copy(Entry other) {
            for (int type = 0; type < TYPES; type++) {
                attributes[type].copy(other.attributes[type]);
            }
            above = other.above;
            nameType = other.nameType;
            namePlain = other.namePlain;
        }

        void takeNamePart(Name name) {
            nameType = name.types[0];
            namePlain = name.plains[0];
        }

        boolean hasItsNamePart() {
            return attributes[nameType].has(namePlain);
        }

        boolean isNamed(int type, long plain) {
            return nameType == type && namePlain == plain;
        }

        boolean isAtOrBelow(Entry base) {
            Entry entry = this;
            for (int k = 0; k < MOST_PARTS && entry != null; k++) {
                if (entry == base) {
                    return true;
                }
                entry = entry.above;
            }
            return false;
        }

        int structuralClasses() {
            return classSet() & (CLASS_G | CLASS_H);
        }

        boolean fitsSchema() {
            int classes = classSet();
            int structural = classes & (CLASS_G | CLASS_H);
            boolean oneStructural = structural == CLASS_G || structural == CLASS_H;
            if (!oneStructural || (classes & CLASS_OTHER) != 0 || attributes[NAME].size == 0) {
                return false;
            }
            if (structural == CLASS_H) {
                return attributes[NUMBER].size > 0;
            }
            boolean mayHaveMore = (classes & CLASS_X) != 0;
            return mayHaveMore || attributes[NUMBER].size == 0 && attributes[SECRET].size == 0;
        }

        private int classSet() {
            ValueRow row = attributes[CLASSES];
            int set = 0;
            for (int k = 0; k < row.size; k++) {
                switch (Packed.byteAt(row.plains[k], 0)) {
                    case 'g':
                        set |= CLASS_G;
                        break;
                    case 'h':
                        set |= CLASS_H;
                        break;
                    case 'x':
                        set |= CLASS_X;
                        break;
                    default:
                        set |= CLASS_OTHER;
                        break;
                }
            }
            return set;
        }
    }

    /** A name as a request writes it, taken apart: the entry's own part first. */
    private static final class Name {
        final int[] types = new int[MOST_PARTS];
        final long[] given = new long[MOST_PARTS];
        final long[] plains = new long[MOST_PARTS];
        int parts = 0;

        /** Whether the request's text is a name; when it is none, there are no parts. */
        boolean read(Request request, int text) {
            parts = 0;
            int at = request.starts[text];
            int end = request.ends[text];
            if (at == end) {
                return true;
            }
            for (int part = 0; part < MOST_PARTS && at >= 0; part++) {
                at = readPart(request.bytes, at, end, part);
                if (at == end) {
                    parts = part + 1;
                    return true;
                }
                // Behind a part that is not the last one stands a comma.
                at = at < 0 ? at : at + 1;
            }
            return false;
        }

        /** Where the part ends, at a comma or the end; below 0 when it is no part. */
        private int readPart(int[] bytes, int at, int end, int part) {
            if (end - at < 2 || bytes[at + 1] != '=') {
                return NONE;
            }
            int type = Syntax.typeOf(bytes[at]);
            if (type != NAME && type != DESCRIPTION && type != NUMBER) {
                return NONE;
            }
            long value = Packed.EMPTY;
            int k = at + 2;
            for (; k < end && bytes[k] != ','; k++) {
                if (bytes[k] == '\\') {
                    k++;
                    if (k == end || !isMarked(bytes[k])) {
                        return NONE;
                    }
                } else if (bytes[k] == '=') {
                    return NONE;
                }
                if (Packed.sizeOf(value) == Packed.MOST_BYTES) {
                    return NONE;
                }
                value = Packed.append(value, bytes[k]);
            }
            types[part] = type;
            given[part] = value;
            plains[part] = Syntax.plainOf(type, value);
            return plains[part] == Packed.INVALID ? NONE : k;
        }

        /** Whether the character is written with a \ before it. */
        static boolean isMarked(int c) {
            return c == ',' || c == '=' || c == '\\';
        }
    }

    /** The filters of one search, each behind the one that it lies in. */
    private static final class Filters {
        static final int AND = 0xA0;
        static final int OR = 0xA1;
        static final int NOT = 0xA2;
        static final int EQUAL = 0xA3;
        static final int AT_LEAST = 0xA5;
        static final int AT_MOST = 0xA6;
        static final int PRESENT = 0x87;
        static final int MOST = 12;
        static final int MOST_DEPTH = 6;

        // In this order AND is the least truth, OR the greatest, and NOT turns the scale round.
        static final int FALSE = 0;
        static final int UNDEFINED = 1;
        static final int TRUE = 2;

        private final int[] kinds = new int[MOST];
        private final int[] around = new int[MOST];
        private final int[] firstTexts = new int[MOST];
        private final int[] types = new int[MOST];
        private final long[] plains = new long[MOST];
        private final int[] truths = new int[MOST];
        private int count = 0;

        void clear() {
            count = 0;
        }

        /** The new filter's place, below 0 when there are too many. */
        int add(int kind, int aroundIt, int firstText) {
            if (count == MOST) {
                return NONE;
            }
            kinds[count] = kind;
            around[count] = aroundIt;
            firstTexts[count] = firstText;
            count++;
            return count - 1;
        }

        /** Reads types and values once, not again for every entry. */
        void readLeaves(Request request) {
            for (int f = 0; f < count; f++) {
                types[f] = NONE;
                plains[f] = Packed.INVALID;
                if (!holdsFilters(kinds[f])) {
                    types[f] = request.typeOf(firstTexts[f]);
                    if (kinds[f] != PRESENT) {
                        plains[f] = Syntax.plainOf(types[f], request.packed(firstTexts[f] + 1));
                    }
                }
            }
        }

        int truthFor(Entry entry) {
            for (int f = 0; f < count; f++) {
                truths[f] = holdsFilters(kinds[f]) ? truthOfNone(kinds[f]) : leafTruth(f, entry);
            }
            // What lies in a filter stands behind it, so backwards each one is settled in time.
            for (int f = count - 1; f > 0; f--) {
                int outer = around[f];
                if (outer >= 0 && outer < f) {
                    truths[outer] = joined(kinds[outer], truths[outer], truths[f]);
                }
            }
            return truths[0];
        }

        private static boolean holdsFilters(int kind) {
            return kind == AND || kind == OR || kind == NOT;
        }

        private static int truthOfNone(int kind) {
            return kind == AND ? TRUE : FALSE;
        }

        private static int joined(int kind, int truth, int next) {
            if (kind == NOT) {
                return TRUE - next;
            }
            return kind == AND ? Math.min(truth, next) : Math.max(truth, next);
        }

        private int leafTruth(int f, Entry entry) {
            int type = types[f];
            if (type < 0 || type >= TYPES) {
                return UNDEFINED;
            }
            ValueRow row = entry.attributes[type];
            if (kinds[f] == PRESENT) {
                return row.size > 0 ? TRUE : FALSE;
            }
            if (plains[f] == Packed.INVALID) {
                return UNDEFINED;
            }
            if (kinds[f] == EQUAL) {
                return row.has(plains[f]) ? TRUE : FALSE;
            }
            return type == NUMBER ? orderTruth(kinds[f], plains[f], row) : UNDEFINED;
        }

        private static int orderTruth(int kind, long plain, ValueRow row) {
            int asked = Packed.numberOf(plain);
            for (int k = 0; k < row.size; k++) {
                int there = Packed.numberOf(row.plains[k]);
                if (kind == AT_LEAST ? there >= asked : there <= asked) {
                    return TRUE;
                }
            }
            return FALSE;
        }
    }

    /** One message, taken apart: its texts in their order, and what stands between them. */
    private static final class Request {
        static final int MOST_VALUES = 8;
        private static final int MOST_TEXT = 30;
        /** A text takes two bytes of the message at least, an attribute eight. */
        private static final int MOST_TEXTS = MOST_CONTENT / 2;
        private static final int MOST_ATTRIBUTES = MOST_CONTENT / 8;
        /** Below every number of two bytes. */
        private static final int NO_NUMBER = -65536;

        /** The bytes that are kept of the message that comes; the texts are places in them. */
        final int[] bytes = new int[MOST_MESSAGE];
        private int at = 0;
        int id = 0;
        int kind = 0;
        int number = 0;
        int choice = 0;
        boolean flag = false;
        final int[] starts = new int[MOST_TEXTS];
        final int[] ends = new int[MOST_TEXTS];
        private int texts = 0;
        final int[] valueCounts = new int[MOST_ATTRIBUTES];
        int attributes = 0;
        final Filters filters = new Filters();

        boolean isEmpty(int text) {
            return starts[text] == ends[text];
        }

        long packed(int text) {
            return Packed.of(bytes, starts[text], ends[text]);
        }

        int typeOf(int text) {
            return ends[text] - starts[text] == 1 ? Syntax.typeOf(bytes[starts[text]]) : NONE;
        }

        /** Whether the first bytes are one message of the form. */
        boolean decode(int size) {
            at = 0;
            texts = 0;
            attributes = 0;
            filters.clear();
            if (enter(SEQUENCE_TAG, size) != size) {
                return false;
            }
            id = readNumber(size);
            if (id < 1 || at >= size) {
                return false;
            }
            kind = bytes[at];
            return enter(kind, size) == size && readContent(size) && at == size;
        }

        private boolean readContent(int end) {
            switch (kind) {
                case BIND:
                    return readVersion(end) && readText(TEXT_TAG, end) && readText(SECRET_TAG, end);
                case UNBIND:
                    return at == end;
                case DELETE:
                    return takeText(end);
                case COMPARE:
                    return readText(TEXT_TAG, end) && enter(SEQUENCE_TAG, end) == end
                            && readText(TEXT_TAG, end) && readText(TEXT_TAG, end);
                case ADD:
                    return readText(TEXT_TAG, end) && enter(SEQUENCE_TAG, end) == end
                            && readAttributes(end);
                case MODIFY:
                    return readText(TEXT_TAG, end) && readChoice(end)
                            && readText(TEXT_TAG, end) && readValues(end);
                case RENAME:
                    return readText(TEXT_TAG, end) && readText(TEXT_TAG, end) && readFlag(end);
                case SEARCH:
                    return readText(TEXT_TAG, end) && readChoice(end) && readLimit(end)
                            && readFilter(end, NONE, 1);
                default:
                    return false;
            }
        }

        /**
         * Goes to the content of the value with this tag and tells where it ends; below 0 when
         * there is no such value that ends at or before end.
         */
        private int enter(int tag, int end) {
            if (end - at < 2 || bytes[at] != tag) {
                return NONE;
            }
            int start = at + 2;
            int size = bytes[at + 1];
            if (size == LONG_LENGTH && start < end) {
                size = bytes[start];
                start++;
            } else if (size >= SHORT_LENGTHS) {
                return NONE;
            }
            if (size > end - start) {
                return NONE;
            }
            at = start;
            return start + size;
        }

        private int readNumber(int end) {
            int stop = enter(INT_TAG, end);
            if (stop < 0 || stop - at < 1 || stop - at > 2) {
                return NO_NUMBER;
            }
            // The cast brings the sign in.
            int result = (byte) bytes[at];
            if (stop - at == 2) {
                result = result << 8 | bytes[at + 1];
            }
            at = stop;
            return result;
        }

        private boolean readVersion(int end) {
            number = readNumber(end);
            return number != NO_NUMBER;
        }

        private boolean readLimit(int end) {
            number = readNumber(end);
            return number >= 0;
        }

        /** The one byte of the value with this tag, below 0 when there is no such value. */
        private int readByte(int tag, int end) {
            int stop = enter(tag, end);
            if (stop < 0 || stop - at != 1) {
                return NONE;
            }
            at = stop;
            return bytes[stop - 1];
        }

        private boolean readChoice(int end) {
            choice = readByte(CHOICE_TAG, end);
            return choice >= 0 && choice <= 2;
        }

        private boolean readFlag(int end) {
            int given = readByte(FLAG_TAG, end);
            flag = given > 0;
            return given >= 0;
        }

        private boolean readText(int tag, int end) {
            int stop = enter(tag, end);
            return stop >= 0 && takeText(stop);
        }

        private boolean takeText(int stop) {
            if (stop - at > MOST_TEXT || texts == MOST_TEXTS) {
                return false;
            }
            starts[texts] = at;
            ends[texts] = stop;
            texts++;
            at = stop;
            return true;
        }

        private boolean readValues(int end) {
            int stop = enter(VALUES_TAG, end);
            if (stop < 0 || attributes == MOST_ATTRIBUTES) {
                return false;
            }
            int count = 0;
            for (; count < MOST_VALUES && at < stop; count++) {
                if (!readText(TEXT_TAG, stop)) {
                    return false;
                }
            }
            valueCounts[attributes] = count;
            attributes++;
            return at == stop;
        }

        private boolean readAttributes(int end) {
            for (int k = 0; k < MOST_ATTRIBUTES && at < end; k++) {
                int stop = enter(SEQUENCE_TAG, end);
                if (stop < 0 || !readText(TEXT_TAG, stop) || !readValues(stop)) {
                    return false;
                }
                if (at != stop || valueCounts[k] == 0) {
                    return false;
                }
            }
            return at == end;
        }

        private boolean readFilter(int end, int around, int depth) {
            if (depth > Filters.MOST_DEPTH || at >= end) {
                return false;
            }
            int tag = bytes[at];
            int stop = enter(tag, end);
            int filter = filters.add(tag, around, texts);
            if (stop < 0 || filter < 0) {
                return false;
            }
            switch (tag) {
                case Filters.AND:
                case Filters.OR:
                    for (int k = 0; k < Filters.MOST && at < stop; k++) {
                        if (!readFilter(stop, filter, depth + 1)) {
                            return false;
                        }
                    }
                    return at == stop;
                case Filters.NOT:
                    return readFilter(stop, filter, depth + 1) && at == stop;
                case Filters.EQUAL:
                case Filters.AT_LEAST:
                case Filters.AT_MOST:
                    return readText(TEXT_TAG, stop) && readText(TEXT_TAG, stop) && at == stop;
                case Filters.PRESENT:
                    return takeText(stop);
                default:
                    return false;
            }
        }
    }

    /** The entries in their order; behind the last one stand those that are free. */
    private static final class Tree {
        final Entry[] order = new Entry[MOST_ENTRIES];
        int count = 0;

        Tree() {
            for (int place = 0; place < MOST_ENTRIES; place++) {
                order[place] = new Entry(MOST_OF_ANY_TYPE);
            }
        }

        Entry entryAt(int place) {
            return place >= 0 && place < count ? order[place] : null;
        }

        int placeOf(Entry entry) {
            for (int place = 0; place < count; place++) {
                if (order[place] == entry) {
                    return place;
                }
            }
            return NONE;
        }

        Entry childOf(Entry above, int type, long plain) {
            for (int place = 0; place < count; place++) {
                Entry entry = order[place];
                if (entry.above == above && entry.isNamed(type, plain)) {
                    return entry;
                }
            }
            return null;
        }

        /** The entry with the name's parts from firstPart on; null when there is none. */
        Entry find(Name name, int firstPart) {
            Entry entry = null;
            for (int part = name.parts - 1; part >= firstPart; part--) {
                entry = childOf(entry, name.types[part], name.plains[part]);
                if (entry == null) {
                    return null;
                }
            }
            return entry;
        }

        boolean hasBelow(Entry above) {
            for (int place = 0; place < count; place++) {
                if (order[place].above == above) {
                    return true;
                }
            }
            return false;
        }

        boolean isFull() {
            return count == MOST_ENTRIES;
        }

        void addCopy(Entry entry) {
            if (!isFull()) {
                order[count].copy(entry);
                count++;
            }
        }

        void remove(Entry entry) {
            int place = placeOf(entry);
            if (place == NONE) {
                return;
            }
            for (int k = place; k < count - 1; k++) {
                order[k] = order[k + 1];
            }
            count--;
            order[count] = entry;
            entry.clear();
        }
    }

    /** Judges what would come of a change on a candidate, and only then makes the change. */
    private static final class Editor {
        /** It takes all that a request adds before it is counted whether that is too many. */
        private final Entry candidate = new Entry(MOST_OF_ANY_TYPE + Request.MOST_VALUES);
        private final ValueRow asked = new ValueRow(Request.MOST_VALUES);

        int add(Request request, Name name, Tree tree) {
            candidate.clear();
            int text = 1;
            for (int k = 0; k < request.attributes; k++) {
                int type = request.typeOf(text);
                if (type == NONE) {
                    return NO_TYPE;
                }
                ValueRow row = candidate.attributes[type];
                if (row.size > 0) {
                    return STOOD_BEFORE;
                }
                int result = readValues(request, type, text + 1, request.valueCounts[k], row);
                if (result != DONE) {
                    return result;
                }
                if (row.size > MOST_OF_TYPE[type]) {
                    return TOO_MANY_VALUES;
                }
                text += 1 + request.valueCounts[k];
            }
            return addCandidate(name, tree);
        }

        private int addCandidate(Name name, Tree tree) {
            if (name.parts == 0 || tree.find(name, 0) != null) {
                return SUCH_ENTRY_EXISTS;
            }
            candidate.above = tree.find(name, 1);
            candidate.takeNamePart(name);
            if (candidate.above == null && name.parts > 1) {
                return NO_SUCH_ENTRY;
            }
            if (tree.isFull()) {
                return TREE_IS_FULL;
            }
            if (!candidate.fitsSchema()) {
                return AGAINST_SCHEMA;
            }
            if (!candidate.hasItsNamePart()) {
                return NAME_NOT_AMONG_VALUES;
            }
            tree.addCopy(candidate);
            return DONE;
        }

        int modify(Request request, Entry entry) {
            int type = request.typeOf(1);
            if (type == NONE) {
                return NO_TYPE;
            }
            asked.clear();
            int result = readValues(request, type, 2, request.valueCounts[0], asked);
            if (result != DONE) {
                return result;
            }
            candidate.copy(entry);
            result = change(request.choice, type);
            if (result != DONE) {
                return result;
            }
            if (!candidate.hasItsNamePart()) {
                return NAME_WOULD_GO;
            }
            if (candidate.structuralClasses() != entry.structuralClasses()) {
                return STRUCTURE_WOULD_CHANGE;
            }
            if (!candidate.fitsSchema()) {
                return AGAINST_SCHEMA;
            }
            entry.copy(candidate);
            return DONE;
        }

        private int change(int choice, int type) {
            ValueRow row = candidate.attributes[type];
            if (choice == CHANGE_DELETE) {
                return takeAway(row);
            }
            if (choice == CHANGE_ADD) {
                if (asked.size == 0) {
                    return PROTOCOL_ERROR;
                }
                if (row.hasAny(asked)) {
                    return STOOD_BEFORE;
                }
                row.addAll(asked);
            } else {
                row.copy(asked);
            }
            return row.size > MOST_OF_TYPE[type] ? TOO_MANY_VALUES : DONE;
        }

        private int takeAway(ValueRow row) {
            if (row.size == 0 || !row.hasAll(asked)) {
                return NO_SUCH_ATTRIBUTE;
            }
            if (asked.size == 0) {
                row.clear();
            } else {
                row.removeAll(asked);
            }
            return DONE;
        }

        int rename(Entry entry, Name newPart, boolean oldGoes, Tree tree) {
            if (entry == null) {
                return NO_SUCH_ENTRY;
            }
            int type = newPart.types[0];
            long plain = newPart.plains[0];
            Entry other = tree.childOf(entry.above, type, plain);
            if (other != null && other != entry) {
                return SUCH_ENTRY_EXISTS;
            }
            candidate.copy(entry);
            if (oldGoes && !entry.isNamed(type, plain)) {
                candidate.attributes[entry.nameType].remove(entry.namePlain);
            }
            ValueRow row = candidate.attributes[type];
            if (!row.has(plain)) {
                row.add(newPart.given[0], plain);
            }
            if (row.size > MOST_OF_TYPE[type]) {
                return TOO_MANY_VALUES;
            }
            if (!candidate.fitsSchema()) {
                return AGAINST_SCHEMA;
            }
            candidate.takeNamePart(newPart);
            entry.copy(candidate);
            return DONE;
        }

        /** Puts a request's values into an empty row, up to the first one that is wrong. */
        private int readValues(Request request, int type, int firstText, int count, ValueRow row) {
            for (int text = firstText; text < firstText + count; text++) {
                long given = request.packed(text);
                long plain = Syntax.plainOf(type, given);
                if (plain == Packed.INVALID) {
                    return NOT_THE_SYNTAX;
                }
                if (row.has(plain)) {
                    return STOOD_BEFORE;
                }
                row.add(given, plain);
            }
            return DONE;
        }
    }

    /** The bytes that go out. Content is written first, then wrapped, as its length is known. */
    private static final class Answer {
        private static final int[] NOTICE = {
            0x30, 0x0C, 0x02, 0x01, 0x00, 0x78, 0x07, 0x0A, 0x01, 0x02, 0x04, 0x00, 0x04, 0x00
        };
        /** The longest entry takes 146 bytes, and the result behind the entries 15. */
        private static final int ROOM = 146 * MOST_ENTRIES + 15;

        private final int[] bytes = new int[ROOM];
        int size = 0;

        void clear() {
            size = 0;
        }

        long eightBytes(int k) {
            if (k < 0 || k > size / 8) {
                return 0L;
            }
            long eight = 0L;
            for (int place = 8 * k; place < 8 * k + 8; place++) {
                eight = eight << 8 | (place < size ? bytes[place] : 0);
            }
            return eight;
        }

        void writeNotice() {
            for (int k = 0; k < NOTICE.length; k++) {
                put(NOTICE[k]);
            }
        }

        void writeResult(int id, int request, int result) {
            int start = size;
            writeId(id);
            int inner = size;
            put(CHOICE_TAG);
            put(1);
            put(result);
            put(TEXT_TAG);
            put(0);
            put(TEXT_TAG);
            put(0);
            wrap(answerTo(request), inner);
            wrap(SEQUENCE_TAG, start);
        }

        private static int answerTo(int request) {
            if (request == SEARCH) {
                return 0x65;
            }
            return request == DELETE ? 0x6B : request + 1;
        }

        void writeEntry(int id, Entry entry) {
            int start = size;
            writeId(id);
            int inner = size;
            writeName(entry);
            int list = size;
            for (int type = 0; type < TYPES; type++) {
                if (entry.attributes[type].size > 0) {
                    writeAttribute(type, entry.attributes[type]);
                }
            }
            wrap(SEQUENCE_TAG, list);
            wrap(FOUND_TAG, inner);
            wrap(SEQUENCE_TAG, start);
        }

        private void writeId(int id) {
            int start = size;
            if (id >= 128) {
                put(id >> 8);
            }
            put(id & 0xFF);
            wrap(INT_TAG, start);
        }

        private void writeName(Entry entry) {
            int start = size;
            Entry named = entry;
            for (int part = 0; part < MOST_PARTS && named != null; part++) {
                if (part > 0) {
                    put(',');
                }
                writePart(named.nameType, named.namePlain);
                named = named.above;
            }
            wrap(TEXT_TAG, start);
        }

        private void writePart(int type, long plain) {
            put(TYPE_LETTERS[type]);
            put('=');
            for (int j = 0; j < Packed.sizeOf(plain); j++) {
                int c = Packed.byteAt(plain, j);
                if (Name.isMarked(c)) {
                    put('\\');
                }
                put(c);
            }
        }

        private void writeAttribute(int type, ValueRow row) {
            int start = size;
            put(TEXT_TAG);
            put(1);
            put(TYPE_LETTERS[type]);
            int list = size;
            for (int k = 0; k < row.size; k++) {
                writeValue(row.given[k]);
            }
            wrap(VALUES_TAG, list);
            wrap(SEQUENCE_TAG, start);
        }

        private void writeValue(long given) {
            put(TEXT_TAG);
            put(Packed.sizeOf(given));
            for (int j = 0; j < Packed.sizeOf(given); j++) {
                put(Packed.byteAt(given, j));
            }
        }

        private void put(int b) {
            if (size < ROOM) {
                bytes[size] = b;
                size++;
            }
        }

        /** Puts a tag and a length before all that stands from start on. */
        private void wrap(int tag, int start) {
            int content = size - start;
            int header = content < SHORT_LENGTHS ? 2 : 3;
            if (size + header > ROOM) {
                return;
            }
            for (int k = size - 1; k >= start; k--) {
                bytes[k + header] = bytes[k];
            }
            size += header;
            bytes[start] = tag;
            bytes[start + 1] = header == 2 ? content : LONG_LENGTH;
            if (header == 3) {
                bytes[start + 2] = content;
            }
        }
    }
}
