/**
 * Values of JSON in own memory: read, printed, put in order, added, taken apart, searched, sorted and grouped, each
 * made value counted and weighed.
 */
public final class ValueBench {
    private static final int CAPACITY = 4096;
    private static final int REGISTERS = 8;
    private static final int BYTES_OF_INT = 4;
    private static final int BYTES_OF_LONG = 8;
    private static final int DEEPEST_READ = 40;
    private static final int DEEPEST_MADE = 60;
    private static final long GREATEST = 9007199254740991L;
    private static final int LAST_CODE = 127;
    private static final int NOWHERE = -1;

    // The kinds stand in the ORDER of the document, so that values of two kinds compare by them.
    private static final int NULL = 0;
    private static final int FALSE = 1;
    private static final int TRUE = 2;
    private static final int NUMBER = 3;
    private static final int STRING = 4;
    private static final int ARRAY = 5;
    private static final int OBJECT = 6;

    // What an operation answers: DONE, or the REASON why it is REFUSED.
    private static final int DONE = 0;
    private static final int TYPE = 1;
    private static final int RANGE = 2;
    private static final int ZERO = 3;
    private static final int NO_NUMBER = 4;
    private static final int NO_JSON = 5;

    private final Text tape = new Text();
    private final Text result = new Text();
    private final Text scratch = new Text();
    private final Row[] registers = new Row[REGISTERS];
    private final Sorter sorter = new Sorter();
    private Row spare = new Row();
    private int place = NOWHERE;
    private int reason = DONE;

    public ValueBench() {
        for (int r = 0; r < REGISTERS; r++) {
            registers[r] = new Row();
        }
    }

    public int feed(int a, int b, int c, int d, int e) throws IndexOutOfBoundsException {
        if (tape.size() + 5 * BYTES_OF_INT > CAPACITY) {
            throw new IndexOutOfBoundsException("the tape is full");
        }
        tape.addInt(a);
        tape.addInt(b);
        tape.addInt(c);
        tape.addInt(d);
        tape.addInt(e);
        return tape.size();
    }

    public int end(int n) throws IllegalArgumentException {
        demand(isWithin(n, tape.size()));
        tape.keep(n);
        return n;
    }

    public int read(int r) throws IllegalArgumentException, UnsupportedOperationException, IndexOutOfBoundsException {
        demand(isRegister(r));
        spare.clear();
        place = new Reader(tape, spare).readValue();
        tape.clear();
        if (place != NOWHERE) {
            throw new UnsupportedOperationException("broken JSON");
        }
        return keepSpare(r);
    }

    public int print(int r) throws IllegalArgumentException {
        demand(isRegister(r));
        result.clear();
        Printer.write(registers[r], 0, result, 0);
        return result.size();
    }

    public void binary(int to, int op, int a, int b)
            throws IllegalArgumentException, ArithmeticException, IndexOutOfBoundsException {
        demand(isRegister(to) && isWithin(op, 4) && isRegister(a) && isRegister(b));
        spare.clear();
        demandDone(Operators.apply(op, registers[a], registers[b], spare));
        keepSpare(to);
    }

    public int compare(int a, int b) throws IllegalArgumentException {
        demand(isRegister(a) && isRegister(b));
        return Order.of(registers[a], 0, registers[b], 0, 0);
    }

    public boolean same(int a, int b) throws IllegalArgumentException {
        demand(isRegister(a) && isRegister(b));
        return Order.isSame(registers[a], 0, registers[b], 0);
    }

    public void one(int to, int f, int a)
            throws IllegalArgumentException, ArithmeticException, IndexOutOfBoundsException {
        demand(isRegister(to) && isWithin(f, 13) && isRegister(a));
        spare.clear();
        demandDone(Singles.apply(f, registers[a], scratch, sorter, spare));
        keepSpare(to);
    }

    public void two(int to, int f, int a, int x)
            throws IllegalArgumentException, ArithmeticException, IndexOutOfBoundsException {
        demand(isRegister(to) && isWithin(f, 9) && isRegister(a) && isRegister(x));
        spare.clear();
        demandDone(Pairs.apply(f, registers[a], registers[x], scratch, spare));
        keepSpare(to);
    }

    public void sort(int to, int f, int a, int k)
            throws IllegalArgumentException, ArithmeticException, IndexOutOfBoundsException {
        demand(isRegister(to) && isWithin(f, 4) && isRegister(a) && isRegister(k));
        spare.clear();
        demandDone(Keyed.apply(f, registers[a], registers[k], sorter, spare));
        keepSpare(to);
    }

    public long word(int i) throws IndexOutOfBoundsException {
        if (i < 0 || i >= result.size()) {
            throw new IndexOutOfBoundsException("no byte of the result");
        }
        long bytes = 0;
        for (int k = 0; k < BYTES_OF_LONG; k++) {
            bytes = bytes << 8 | Math.max(result.at(i + k), 0);
        }
        return bytes;
    }

    public int count(int what) throws IllegalArgumentException {
        demand(isWithin(what, 3));
        switch (what) {
            case 0:
                return tape.size();
            case 1:
                return result.size();
            case 2:
                return place;
            default:
                return reason;
        }
    }

    private static boolean isRegister(int r) {
        return isWithin(r, REGISTERS - 1);
    }

    private static boolean isWithin(int n, int last) {
        return n >= 0 && n <= last;
    }

    private static void demand(boolean inRange) {
        if (!inRange) {
            throw new IllegalArgumentException("a number out of range");
        }
    }

    private void demandDone(int why) {
        if (why == DONE) {
            return;
        }
        reason = why;
        switch (why) {
            case TYPE:
                throw new ArithmeticException("type");
            case RANGE:
                throw new ArithmeticException("range");
            case ZERO:
                throw new ArithmeticException("zero");
            case NO_NUMBER:
                throw new ArithmeticException("number");
            default:
                throw new ArithmeticException("json");
        }
    }

    /**
     * Makes the value in the spare row that of a register and answers how many bytes it has printed. To print it is
     * to look at all LIMITS: a value never weighs more than it has bytes, so that of WEIGHT needs no look of its own.
     */
    private int keepSpare(int to) {
        scratch.clear();
        Printer.write(spare, 0, scratch, 0);
        if (spare.isOver() || scratch.isOver()) {
            throw new IndexOutOfBoundsException("a value beyond the limits");
        }
        Row old = registers[to];
        registers[to] = spare;
        spare = old;
        return scratch.size();
    }

    /** Bytes, filled from the beginning; what finds no room is dropped, and the text is over from then on. */
    private static final class Text {
        private final byte[] bytes = new byte[CAPACITY];
        private int length = 0;
        private boolean over = false;

        void clear() {
            length = 0;
            over = false;
        }

        void keep(int n) {
            length = Math.max(0, Math.min(n, length));
        }

        int size() {
            return length;
        }

        boolean isOver() {
            return over;
        }

        void setOver() {
            over = true;
        }

        /** The byte there, NOWHERE behind the end. */
        int at(int i) {
            return i >= 0 && i < length ? bytes[i] & 255 : NOWHERE;
        }

        void add(int code) {
            if (length >= CAPACITY) {
                over = true;
                return;
            }
            bytes[length] = (byte) code;
            length++;
        }

        void addInt(int four) {
            for (int shift = 24; shift >= 0; shift -= 8) {
                add(four >> shift);
            }
        }

        void addWord(String letters) {
            for (int k = 0; k < letters.length(); k++) {
                add(letters.charAt(k));
            }
        }

        void addString(Row row, int string) {
            for (int k = 0; k < row.length(string); k++) {
                add(row.code(string, k));
            }
        }

        void addNumber(long number) {
            if (number < 0) {
                add('-');
            }
            long rest = Math.abs(number);
            long unit = 1;
            while (unit <= GREATEST / 10 && rest / unit >= 10) {
                unit *= 10;
            }
            for (; unit > 0; unit /= 10) {
                add((int) ('0' + rest / unit % 10));
            }
        }
    }

    /**
     * A value laid out in cells, at first null: a head, then all that is in it. A head has its kind in the lowest
     * three bits and above them the number or, of strings and lists, the length and the cells of the whole. So a
     * value has as many cells as its WEIGHT, and two values with unlike heads are never the same.
     */
    private static final class Row {
        private static final int KIND_BITS = 3;
        private static final int KIND_MASK = 7;
        private static final int LENGTH_MASK = 65535;
        private static final int SPAN_SHIFT = 19;

        private final long[] cells = new long[CAPACITY];
        private int size = 1;
        private boolean over = false;

        void clear() {
            size = 0;
            over = false;
        }

        int size() {
            return size;
        }

        boolean isOver() {
            return over;
        }

        long cell(int at) {
            return at >= 0 && at < size ? cells[at] : NULL;
        }

        int kind(int at) {
            return at >= 0 && at < size ? (int) cells[at] & KIND_MASK : NULL;
        }

        boolean is(int at, int kind) {
            return kind(at) == kind;
        }

        long number(int at) {
            return at >= 0 && at < size ? cells[at] >> KIND_BITS : 0;
        }

        /** The characters of a string, the elements of an array, the names of an object. */
        int length(int at) {
            return at >= 0 && at < size ? (int) (cells[at] >> KIND_BITS) & LENGTH_MASK : 0;
        }

        int code(int string, int i) {
            int at = string + 1 + i;
            return at >= 0 && at < size ? (int) cells[at] : 0;
        }

        /** Where the value behind this one begins. */
        int after(int at) {
            if (at < 0 || at >= size || (cells[at] & KIND_MASK) < STRING) {
                return at + 1;
            }
            return at + (int) (cells[at] >> SPAN_SHIFT);
        }

        int element(int array, long index) {
            int at = array + 1;
            for (int k = 0; k < length(array) && k < index; k++) {
                at = after(at);
            }
            return at;
        }

        /** Where the value of a name stands, NOWHERE if the object does not have the name. */
        int valueOf(int object, Row other, int name) {
            int at = object + 1;
            for (int k = 0; k < length(object); k++) {
                int value = after(at);
                if (cell(at) == other.cell(name) && orderOfStrings(at, other, name) == 0) {
                    return value;
                }
                at = after(value);
            }
            return NOWHERE;
        }

        /** The ORDER of a string here and one of another row; calls go deepest to this one, so it makes none. */
        int orderOfStrings(int string, Row other, int second) {
            if (string < 0 || string >= size || second < 0 || second >= other.size) {
                return 0;
            }
            int here = (int) (cells[string] >> KIND_BITS) & LENGTH_MASK;
            int there = (int) (other.cells[second] >> KIND_BITS) & LENGTH_MASK;
            int shared = here < there ? here : there;
            for (int k = 1; k <= shared && string + k < size && second + k < other.size; k++) {
                long difference = cells[string + k] - other.cells[second + k];
                if (difference != 0) {
                    return difference < 0 ? -1 : 1;
                }
            }
            return here == there ? 0 : here < there ? -1 : 1;
        }

        /** Whether the characters of a string stand in this one from a place on. */
        boolean hasPart(int string, int from, Row other, int part) {
            int many = other.length(part);
            if (from < 0 || from + many > length(string)) {
                return false;
            }
            for (int k = 0; k < many; k++) {
                if (code(string, from + k) != other.code(part, k)) {
                    return false;
                }
            }
            return true;
        }

        void put(long cell) {
            if (over || size >= CAPACITY) {
                over = true;
                return;
            }
            cells[size] = cell;
            size++;
        }

        void putNumber(long number) {
            put(number << KIND_BITS | NUMBER);
        }

        void putTruth(boolean truth) {
            put(truth ? TRUE : FALSE);
        }

        void putNull() {
            put(NULL);
        }

        void putText(Text text) {
            int head = open();
            for (int k = 0; k < text.size(); k++) {
                put(text.at(k));
            }
            close(head, STRING, text.size());
            over = over || text.isOver();
        }

        /** Puts a string of the characters from begin on, and before behind. */
        void putPart(Row from, int string, int begin, int behind) {
            int head = open();
            putCells(from, string + 1 + begin, behind - begin);
            close(head, STRING, behind - begin);
        }

        void putCopy(Row from, int at) {
            putCells(from, at, from.after(at) - at);
        }

        /** The elements of an array or the characters of a string, without a head. */
        void putInside(Row from, int at) {
            putCells(from, at + 1, from.after(at) - at - 1);
        }

        private void putCells(Row from, int at, int many) {
            if (over || at < 0 || many < 0 || at + many > from.size || size + many > CAPACITY) {
                over = true;
                return;
            }
            System.arraycopy(from.cells, at, cells, size, many);
            size += many;
        }

        /** Leaves a cell for the head of a value whose cells are known only when it is closed. */
        int open() {
            put(NULL);
            return size - 1;
        }

        void close(int head, int kind, int length) {
            if (!over && head >= 0 && head < size) {
                cells[head] = (long) (size - head) << SPAN_SHIFT | (long) length << KIND_BITS | kind;
            }
        }
    }

    /** Writes values as PRINTED; a text is over where a value has more lists within one another than it may. */
    private static final class Printer {
        private static final String DIGITS = "0123456789abcdef";

        static void write(Row row, int at, Text out, int depth) {
            switch (row.kind(at)) {
                case NULL:
                    out.addWord("null");
                    break;
                case FALSE:
                    out.addWord("false");
                    break;
                case TRUE:
                    out.addWord("true");
                    break;
                case NUMBER:
                    out.addNumber(row.number(at));
                    break;
                case STRING:
                    writeString(row, at, out);
                    break;
                default:
                    writeList(row, at, out, depth);
            }
        }

        private static void writeList(Row row, int list, Text out, int depth) {
            if (depth >= DEEPEST_MADE) {
                out.setOver();
                return;
            }
            boolean named = row.is(list, OBJECT);
            out.add(named ? '{' : '[');
            int at = list + 1;
            for (int k = 0; k < row.length(list); k++) {
                if (k > 0) {
                    out.add(',');
                }
                if (named) {
                    writeString(row, at, out);
                    out.add(':');
                    at = row.after(at);
                }
                write(row, at, out, depth + 1);
                at = row.after(at);
            }
            out.add(named ? '}' : ']');
        }

        private static void writeString(Row row, int string, Text out) {
            out.add('"');
            for (int k = 0; k < row.length(string); k++) {
                writeCode(row.code(string, k), out);
            }
            out.add('"');
        }

        private static void writeCode(int code, Text out) {
            int letter = letterOf(code);
            if (letter != NOWHERE) {
                out.add('\\');
                out.add(letter);
            } else if (code < ' ' || code == LAST_CODE) {
                out.add('\\');
                out.add('u');
                out.add('0');
                out.add('0');
                out.add(DIGITS.charAt(code >> 4 & 15));
                out.add(DIGITS.charAt(code & 15));
            } else {
                out.add(code);
            }
        }

        /** What stands behind a \ for this code, NOWHERE if it has no such letter. */
        private static int letterOf(int code) {
            switch (code) {
                case '"':
                case '\\':
                    return code;
                case '\b':
                    return 'b';
                case '\t':
                    return 't';
                case '\n':
                    return 'n';
                case '\f':
                    return 'f';
                case '\r':
                    return 'r';
                default:
                    return NOWHERE;
            }
        }
    }

    /** Reads the JSON of one text into a row. What answers false or NOWHERE has met a byte that place tells. */
    private static final class Reader {
        private final Text source;
        private final Row out;
        private int at = 0;
        private int place = NOWHERE;

        Reader(Text source, Row out) {
            this.source = source;
            this.out = out;
        }

        /** Answers the PLACE where the JSON is broken, NOWHERE if it is whole. */
        int readValue() {
            if (value(0)) {
                skipBlanks();
                demandEnd();
            }
            return place;
        }

        /** As readValue, for a NUMBER without blanks. */
        int readNumber() {
            if (number()) {
                demandEnd();
            }
            return place;
        }

        private void demandEnd() {
            if (at < source.size()) {
                broken(at);
            }
        }

        private boolean broken(int where) {
            place = where;
            return false;
        }

        private int brokenCode(int where) {
            place = where;
            return NOWHERE;
        }

        private boolean take(int code) {
            if (source.at(at) != code) {
                return broken(at);
            }
            at++;
            return true;
        }

        private void skipBlanks() {
            while (at < source.size() && isBlank(source.at(at))) {
                at++;
            }
        }

        private static boolean isBlank(int code) {
            return code == ' ' || code == '\t' || code == '\n' || code == '\r';
        }

        private boolean value(int depth) {
            skipBlanks();
            switch (source.at(at)) {
                case 'n':
                    return letters("null", NULL);
                case 'f':
                    return letters("false", FALSE);
                case 't':
                    return letters("true", TRUE);
                case '"':
                    return string();
                case '[':
                    return depth < DEEPEST_READ ? array(depth) : broken(at);
                case '{':
                    return depth < DEEPEST_READ ? object(depth) : broken(at);
                default:
                    return number();
            }
        }

        private boolean letters(String due, int kind) {
            for (int k = 0; k < due.length(); k++) {
                if (!take(due.charAt(k))) {
                    return false;
                }
            }
            out.put(kind);
            return true;
        }

        private boolean number() {
            int start = at;
            boolean negative = source.at(at) == '-';
            if (negative) {
                at++;
            }
            if (!isDigit(source.at(at))) {
                return broken(at);
            }
            long size = digits();
            if (size > GREATEST) {
                return broken(start);
            }
            out.putNumber(negative ? -size : size);
            return true;
        }

        private static boolean isDigit(int code) {
            return code >= '0' && code <= '9';
        }

        /** The size that the digits tell, all of them but behind a first 0; one that is too great grows no more. */
        private long digits() {
            long size = source.at(at) - '0';
            at++;
            while (size > 0 && at < source.size() && isDigit(source.at(at))) {
                size = size > GREATEST ? size : size * 10 + source.at(at) - '0';
                at++;
            }
            return size;
        }

        private boolean string() {
            int head = out.open();
            if (!take('"')) {
                return false;
            }
            while (at < source.size() && source.at(at) != '"') {
                boolean escape = source.at(at) == '\\';
                int code = !escape ? plain() : source.at(at + 1) == 'u' ? fourDigits() : letter();
                if (code == NOWHERE) {
                    return false;
                }
                out.put(code);
                at++;
            }
            out.close(head, STRING, out.size() - head - 1);
            return take('"');
        }

        /** The code of a character, at whose last byte this stays; NOWHERE if it is broken. So for the next ones. */
        private int plain() {
            int code = source.at(at);
            return code >= ' ' && code < LAST_CODE ? code : brokenCode(at);
        }

        private int letter() {
            at++;
            int code = codeOf(source.at(at));
            return code == NOWHERE ? brokenCode(at) : code;
        }

        private int fourDigits() {
            int start = at;
            int code = 0;
            at++;
            for (int k = 0; k < 4; k++) {
                at++;
                int digit = digitOf(source.at(at));
                if (digit == NOWHERE) {
                    return brokenCode(at);
                }
                code = code * 16 + digit;
            }
            return code > LAST_CODE ? brokenCode(start) : code;
        }

        private static int digitOf(int code) {
            if (code >= '0' && code <= '9') {
                return code - '0';
            }
            if (code >= 'a' && code <= 'f') {
                return code - 'a' + 10;
            }
            return code >= 'A' && code <= 'F' ? code - 'A' + 10 : NOWHERE;
        }

        /** The code that a letter behind a \ stands for, NOWHERE if it stands for none. */
        private static int codeOf(int letter) {
            switch (letter) {
                case '"':
                case '\\':
                case '/':
                    return letter;
                case 'b':
                    return '\b';
                case 'f':
                    return '\f';
                case 'n':
                    return '\n';
                case 'r':
                    return '\r';
                case 't':
                    return '\t';
                default:
                    return NOWHERE;
            }
        }

        private boolean array(int depth) {
            int head = out.open();
            int total = 0;
            at++;
            skipBlanks();
            boolean more = source.at(at) != ']';
            while (more && total < CAPACITY) {
                if (!value(depth + 1)) {
                    return false;
                }
                total++;
                more = comma();
            }
            out.close(head, ARRAY, total);
            return take(']');
        }

        private boolean object(int depth) {
            int head = out.open();
            int total = 0;
            at++;
            skipBlanks();
            boolean more = source.at(at) != '}';
            while (more && total < CAPACITY) {
                skipBlanks();
                int start = at;
                int name = out.size();
                if (!string() || !isNew(name, start, head, total) || !colon() || !value(depth + 1)) {
                    return false;
                }
                total++;
                more = comma();
            }
            out.close(head, OBJECT, total);
            return take('}');
        }

        /** Whether no name before has been the same; the object is closed without this one to be asked for it. */
        private boolean isNew(int name, int start, int object, int total) {
            out.close(object, OBJECT, total);
            return out.valueOf(object, out, name) == NOWHERE || broken(start);
        }

        private boolean colon() {
            skipBlanks();
            return take(':');
        }

        private boolean comma() {
            skipBlanks();
            boolean there = source.at(at) == ',';
            at += there ? 1 : 0;
            return there;
        }
    }

    /** ORDER, and what is the same; values lie at i and j of two rows, depth lists deep in what is compared. */
    private static final class Order {
        static int of(Row a, int i, Row b, int j, int depth) {
            if (a.kind(i) != b.kind(j) || depth > DEEPEST_MADE) {
                return Integer.compare(a.kind(i), b.kind(j));
            }
            switch (a.kind(i)) {
                case NUMBER:
                    return Long.compare(a.number(i), b.number(j));
                case STRING:
                    return a.orderOfStrings(i, b, j);
                case ARRAY:
                    return ofArrays(a, i, b, j, depth);
                case OBJECT:
                    return ofObjects(a, i, b, j, depth);
                default:
                    return 0;
            }
        }

        static boolean isSame(Row a, int i, Row b, int j) {
            return a.cell(i) == b.cell(j) && of(a, i, b, j, 0) == 0;
        }

        private static int ofArrays(Row a, int i, Row b, int j, int depth) {
            int shared = Math.min(a.length(i), b.length(j));
            int left = i + 1;
            int right = j + 1;
            for (int k = 0; k < shared; k++) {
                int order = of(a, left, b, right, depth + 1);
                if (order != 0) {
                    return order;
                }
                left = a.after(left);
                right = b.after(right);
            }
            return Integer.compare(a.length(i), b.length(j));
        }

        /** Values by names count only where all names are the same, so the first that differ have to wait. */
        private static int ofObjects(Row a, int i, Row b, int j, int depth) {
            int shared = Math.min(a.length(i), b.length(j));
            int left = NOWHERE;
            int right = NOWHERE;
            int values = 0;
            for (int k = 0; k < shared; k++) {
                left = nextName(a, i, left);
                right = nextName(b, j, right);
                int names = a.orderOfStrings(left, b, right);
                if (names != 0) {
                    return names;
                }
                if (values == 0) {
                    values = of(a, a.after(left), b, b.after(right), depth + 1);
                }
            }
            int lengths = Integer.compare(a.length(i), b.length(j));
            return lengths != 0 ? lengths : values;
        }

        /** The least name behind the last one; to look for each anew needs no room for sorted names at any depth. */
        private static int nextName(Row row, int object, int last) {
            int least = NOWHERE;
            int name = object + 1;
            for (int k = 0; k < row.length(object); k++) {
                boolean behind = last == NOWHERE || row.orderOfStrings(name, row, last) > 0;
                if (behind && (least == NOWHERE || row.orderOfStrings(name, row, least) < 0)) {
                    least = name;
                }
                name = row.after(row.after(name));
            }
            return least;
        }
    }

    /** Puts keys, values that lie in one row, in ORDER, and what they are keys of; the same ones stay as they came. */
    private static final class Sorter {
        // No array that prints in 4096 bytes has more elements.
        private static final int MOST = 2048;

        private final int[] keyAt = new int[MOST];
        private final int[] elementAt = new int[MOST];
        private int[] turns = new int[MOST];
        private int[] merged = new int[MOST];
        private int total = 0;

        /** Sorts the elements of an array, or the names of an object. */
        void arrange(Row row, int list) {
            gather(row, list);
            for (int width = 1; width < total; width *= 2) {
                for (int left = 0; left < total; left += 2 * width) {
                    merge(row, left, Math.min(left + width, total), Math.min(left + 2 * width, total));
                }
                int[] sorted = merged;
                merged = turns;
                turns = sorted;
            }
        }

        /** Takes the elements of an array for those that the keys, as they came, belong to. */
        void attach(Row row, int array) {
            int at = array + 1;
            for (int k = 0; k < total; k++) {
                elementAt[k] = at;
                at = row.after(at);
            }
        }

        /** Where the key with this turn lies. */
        int keyAtTurn(int k) {
            return k >= 0 && k < total ? keyAt[turns[k]] : 0;
        }

        /** Where the element lies whose key has this turn. */
        int elementAtTurn(int k) {
            return k >= 0 && k < total ? elementAt[turns[k]] : 0;
        }

        /** Finds the keys, and gives them their turns as they came. */
        void gather(Row row, int list) {
            boolean named = row.is(list, OBJECT);
            total = Math.min(row.length(list), MOST);
            int at = list + 1;
            for (int k = 0; k < total; k++) {
                keyAt[k] = at;
                turns[k] = k;
                at = row.after(at);
                if (named) {
                    at = row.after(at);
                }
            }
        }

        private void merge(Row row, int left, int middle, int behind) {
            int first = left;
            int second = middle;
            for (int k = left; k < behind; k++) {
                boolean fromSecond = first >= middle || second < behind
                        && Order.of(row, keyAtTurn(second), row, keyAtTurn(first), 0) < 0;
                merged[k] = fromSecond ? turns[second] : turns[first];
                first += fromSecond ? 0 : 1;
                second += fromSecond ? 1 : 0;
            }
        }
    }

    /** What binary does; a and b are whole rows, out takes the value, the answer is DONE or a REASON. */
    private static final class Operators {
        static int apply(int op, Row a, Row b, Row out) {
            if (a.is(0, NUMBER) && b.is(0, NUMBER)) {
                return ofNumbers(op, a.number(0), b.number(0), out);
            }
            switch (op) {
                case 0:
                    return plus(a, b, out);
                case 1:
                    return minus(a, b, out);
                case 2:
                    return times(a, b, out);
                case 3:
                    return pieces(a, b, out);
                default:
                    return TYPE;
            }
        }

        private static int ofNumbers(int op, long a, long b, Row out) {
            switch (op) {
                case 0:
                    return number(a + b, out);
                case 1:
                    return number(a - b, out);
                case 2:
                    return product(a, b, out);
                case 3:
                    return b == 0 ? ZERO : number(a / b, out);
                default:
                    return b == 0 ? ZERO : number(a % b, out);
            }
        }

        private static int number(long number, Row out) {
            if (Math.abs(number) > GREATEST) {
                return RANGE;
            }
            out.putNumber(number);
            return DONE;
        }

        private static int product(long a, long b, Row out) {
            boolean tooGreat = a != 0 && Math.abs(b) > GREATEST / Math.abs(a);
            return tooGreat ? RANGE : number(a * b, out);
        }

        private static int plus(Row a, Row b, Row out) {
            if (a.is(0, NULL) || b.is(0, NULL)) {
                out.putCopy(a.is(0, NULL) ? b : a, 0);
                return DONE;
            }
            if (a.kind(0) != b.kind(0)) {
                return TYPE;
            }
            switch (a.kind(0)) {
                case STRING:
                case ARRAY:
                    putOneBehindOther(a, b, out);
                    return DONE;
                case OBJECT:
                    putBoth(a, 0, b, 0, out, false, 0);
                    return DONE;
                default:
                    return TYPE;
            }
        }

        private static void putOneBehindOther(Row a, Row b, Row out) {
            int head = out.open();
            out.putInside(a, 0);
            out.putInside(b, 0);
            out.close(head, a.kind(0), a.length(0) + b.length(0));
        }

        /** The names of both objects with the values of the second; if deep, objects in both are put together. */
        private static void putBoth(Row a, int i, Row b, int j, Row out, boolean deep, int depth) {
            int head = out.open();
            int name = i + 1;
            for (int k = 0; k < a.length(i); k++) {
                int value = a.after(name);
                int second = b.valueOf(j, a, name);
                out.putCopy(a, name);
                if (second == NOWHERE) {
                    out.putCopy(a, value);
                } else if (deep && depth < DEEPEST_MADE && a.is(value, OBJECT) && b.is(second, OBJECT)) {
                    putBoth(a, value, b, second, out, true, depth + 1);
                } else {
                    out.putCopy(b, second);
                }
                name = a.after(value);
            }
            int more = putNewNames(a, i, b, j, out);
            out.close(head, OBJECT, a.length(i) + more);
        }

        /** Puts what the second object alone has, and answers how many names that is. */
        private static int putNewNames(Row a, int i, Row b, int j, Row out) {
            int total = 0;
            int name = j + 1;
            for (int k = 0; k < b.length(j); k++) {
                int value = b.after(name);
                if (a.valueOf(i, b, name) == NOWHERE) {
                    out.putCopy(b, name);
                    out.putCopy(b, value);
                    total++;
                }
                name = b.after(value);
            }
            return total;
        }

        private static int minus(Row a, Row b, Row out) {
            if (!a.is(0, ARRAY) || !b.is(0, ARRAY)) {
                return TYPE;
            }
            int head = out.open();
            int total = 0;
            int at = 1;
            for (int k = 0; k < a.length(0); k++) {
                if (!hasElement(b, a, at)) {
                    out.putCopy(a, at);
                    total++;
                }
                at = a.after(at);
            }
            out.close(head, ARRAY, total);
            return DONE;
        }

        private static boolean hasElement(Row array, Row other, int sought) {
            int at = 1;
            for (int k = 0; k < array.length(0); k++) {
                if (Order.isSame(array, at, other, sought)) {
                    return true;
                }
                at = array.after(at);
            }
            return false;
        }

        private static int times(Row a, Row b, Row out) {
            if (a.is(0, OBJECT) && b.is(0, OBJECT)) {
                putBoth(a, 0, b, 0, out, true, 0);
                return DONE;
            }
            if (a.is(0, STRING) && b.is(0, NUMBER)) {
                putRepeated(a, b.number(0), out);
                return DONE;
            }
            if (a.is(0, NUMBER) && b.is(0, STRING)) {
                putRepeated(b, a.number(0), out);
                return DONE;
            }
            return TYPE;
        }

        private static void putRepeated(Row a, long times, Row out) {
            if (times < 1) {
                out.putNull();
                return;
            }
            int head = out.open();
            // More times than a row has cells fill it or, of an empty string, add nothing.
            for (int k = 0; k < CAPACITY && k < times && !out.isOver(); k++) {
                out.putInside(a, 0);
            }
            out.close(head, STRING, out.size() - head - 1);
        }

        private static int pieces(Row a, Row b, Row out) {
            if (!a.is(0, STRING) || !b.is(0, STRING)) {
                return TYPE;
            }
            int head = out.open();
            int total = b.length(0) == 0 ? putCharacters(a, out) : putPieces(a, b, out);
            out.close(head, ARRAY, total);
            return DONE;
        }

        private static int putCharacters(Row a, Row out) {
            for (int k = 0; k < a.length(0); k++) {
                out.putPart(a, 0, k, k + 1);
            }
            return a.length(0);
        }

        private static int putPieces(Row a, Row b, Row out) {
            if (a.length(0) == 0) {
                return 0;
            }
            int total = 1;
            int begin = 0;
            for (int k = 0; k < a.length(0); k++) {
                if (k >= begin && a.hasPart(0, k, b, 0)) {
                    out.putPart(a, 0, begin, k);
                    begin = k + b.length(0);
                    total++;
                }
            }
            out.putPart(a, 0, begin, a.length(0));
            return total;
        }
    }

    /** What one does; a is a whole row, out takes the value, the answer is DONE or a REASON. */
    private static final class Singles {
        private static final int CASE_STEP = 'a' - 'A';

        static int apply(int f, Row a, Text text, Sorter sorter, Row out) {
            switch (f) {
                case 0:
                    out.putTruth(a.is(0, NULL) || a.is(0, FALSE));
                    return DONE;
                case 1:
                    return length(a, out);
                case 2:
                    return a.is(0, OBJECT) ? sorted(a, sorter, out) : keys(a, out);
                case 3:
                    return keys(a, out);
                case 4:
                    return a.is(0, STRING) ? itself(a, out) : printed(a, text, out);
                case 5:
                    return toNumber(a, text, out);
                case 6:
                    return printed(a, text, out);
                case 7:
                    return fromJson(a, text, out);
                case 8:
                    return a.is(0, ARRAY) ? sorted(a, sorter, out) : TYPE;
                case 9:
                    return reversed(a, sorter, out);
                case 10:
                    return codes(a, out);
                case 11:
                    return ofCodes(a, out);
                case 12:
                    return inCase(a, 'A', CASE_STEP, out);
                default:
                    return inCase(a, 'a', -CASE_STEP, out);
            }
        }

        private static int itself(Row a, Row out) {
            out.putCopy(a, 0);
            return DONE;
        }

        private static int length(Row a, Row out) {
            switch (a.kind(0)) {
                case FALSE:
                case TRUE:
                    return TYPE;
                case NULL:
                    out.putNumber(0);
                    return DONE;
                case NUMBER:
                    out.putNumber(Math.abs(a.number(0)));
                    return DONE;
                default:
                    out.putNumber(a.length(0));
                    return DONE;
            }
        }

        /** The keys as they came. */
        private static int keys(Row a, Row out) {
            if (!a.is(0, ARRAY) && !a.is(0, OBJECT)) {
                return TYPE;
            }
            int head = out.open();
            int name = 1;
            for (int k = 0; k < a.length(0); k++) {
                if (a.is(0, ARRAY)) {
                    out.putNumber(k);
                } else {
                    out.putCopy(a, name);
                    name = a.after(a.after(name));
                }
            }
            out.close(head, ARRAY, a.length(0));
            return DONE;
        }

        /** The elements of an array, or the names of an object, in ORDER. */
        private static int sorted(Row a, Sorter sorter, Row out) {
            int head = out.open();
            sorter.arrange(a, 0);
            for (int k = 0; k < a.length(0); k++) {
                out.putCopy(a, sorter.keyAtTurn(k));
            }
            out.close(head, ARRAY, a.length(0));
            return DONE;
        }

        private static int printed(Row a, Text text, Row out) {
            text.clear();
            Printer.write(a, 0, text, 0);
            out.putText(text);
            return DONE;
        }

        private static int toNumber(Row a, Text text, Row out) {
            if (a.is(0, NUMBER)) {
                return itself(a, out);
            }
            if (!a.is(0, STRING)) {
                return TYPE;
            }
            return readerOf(a, text, out).readNumber() == NOWHERE ? DONE : NO_NUMBER;
        }

        private static int fromJson(Row a, Text text, Row out) {
            if (!a.is(0, STRING)) {
                return TYPE;
            }
            return readerOf(a, text, out).readValue() == NOWHERE ? DONE : NO_JSON;
        }

        private static Reader readerOf(Row a, Text text, Row out) {
            text.clear();
            text.addString(a, 0);
            return new Reader(text, out);
        }

        private static int reversed(Row a, Sorter sorter, Row out) {
            switch (a.kind(0)) {
                case NULL:
                    out.close(out.open(), ARRAY, 0);
                    return DONE;
                case STRING:
                    putReversedString(a, out);
                    return DONE;
                case ARRAY:
                    putReversedArray(a, sorter, out);
                    return DONE;
                default:
                    return TYPE;
            }
        }

        private static void putReversedString(Row a, Row out) {
            int head = out.open();
            for (int k = a.length(0) - 1; k >= 0; k--) {
                out.put(a.code(0, k));
            }
            out.close(head, STRING, a.length(0));
        }

        private static void putReversedArray(Row a, Sorter sorter, Row out) {
            int head = out.open();
            sorter.gather(a, 0);
            for (int k = a.length(0) - 1; k >= 0; k--) {
                out.putCopy(a, sorter.keyAtTurn(k));
            }
            out.close(head, ARRAY, a.length(0));
        }

        private static int codes(Row a, Row out) {
            if (!a.is(0, STRING)) {
                return TYPE;
            }
            int head = out.open();
            for (int k = 0; k < a.length(0); k++) {
                out.putNumber(a.code(0, k));
            }
            out.close(head, ARRAY, a.length(0));
            return DONE;
        }

        private static int ofCodes(Row a, Row out) {
            if (!isOfNumbers(a)) {
                return TYPE;
            }
            int head = out.open();
            for (int k = 1; k <= a.length(0); k++) {
                // A number has one cell, so the elements lie one behind the other.
                long code = a.number(k);
                if (code < 0 || code > LAST_CODE) {
                    return RANGE;
                }
                out.put(code);
            }
            out.close(head, STRING, a.length(0));
            return DONE;
        }

        private static boolean isOfNumbers(Row a) {
            if (!a.is(0, ARRAY)) {
                return false;
            }
            int at = 1;
            for (int k = 0; k < a.length(0); k++) {
                if (!a.is(at, NUMBER)) {
                    return false;
                }
                at = a.after(at);
            }
            return true;
        }

        /** Moves the 26 letters from the first one on by a step. */
        private static int inCase(Row a, int first, int step, Row out) {
            if (!a.is(0, STRING)) {
                return TYPE;
            }
            int head = out.open();
            for (int k = 0; k < a.length(0); k++) {
                int code = a.code(0, k);
                boolean moved = code >= first && code < first + 26;
                out.put(moved ? code + step : code);
            }
            out.close(head, STRING, a.length(0));
            return DONE;
        }
    }

    /** What two does; a and x are whole rows, out takes the value, the answer is DONE or a REASON. */
    private static final class Pairs {
        static int apply(int f, Row a, Row x, Text text, Row out) {
            switch (f) {
                case 0:
                    return has(a, x, out);
                case 1:
                    return contains(a, x, out);
                case 2:
                    return joined(a, x, text, out);
                case 3:
                    return withoutBeginning(a, x, out);
                case 4:
                    return withoutEnd(a, x, out);
                case 5:
                    return areStrings(a, x) ? truth(begins(a, x), out) : TYPE;
                case 6:
                    return areStrings(a, x) ? truth(ends(a, x), out) : TYPE;
                case 7:
                    return indices(a, x, out);
                case 8:
                    return flat(a, x, out);
                default:
                    return a.is(0, ARRAY) && x.is(0, ARRAY) ? indices(a, x, out) : at(a, x, out);
            }
        }

        private static int truth(boolean truth, Row out) {
            out.putTruth(truth);
            return DONE;
        }

        private static int nothing(Row out) {
            out.putNull();
            return DONE;
        }

        private static int copy(Row a, int at, Row out) {
            out.putCopy(a, at);
            return DONE;
        }

        private static boolean areStrings(Row a, Row x) {
            return a.is(0, STRING) && x.is(0, STRING);
        }

        private static int has(Row a, Row x, Row out) {
            if (a.is(0, OBJECT) && x.is(0, STRING)) {
                return truth(a.valueOf(0, x, 0) != NOWHERE, out);
            }
            if (a.is(0, ARRAY) && x.is(0, NUMBER)) {
                return truth(x.number(0) >= 0 && x.number(0) < a.length(0), out);
            }
            return TYPE;
        }

        private static int contains(Row a, Row x, Row out) {
            return areOfOneKind(a, 0, x, 0) ? truth(isIn(a, 0, x, 0, 0), out) : TYPE;
        }

        private static boolean areOfOneKind(Row a, int i, Row x, int j) {
            return a.kind(i) == x.kind(j) || isTruth(a.kind(i)) && isTruth(x.kind(j));
        }

        private static boolean isTruth(int kind) {
            return kind == FALSE || kind == TRUE;
        }

        /** Whether a contains x, where values of two kinds do not. */
        private static boolean isIn(Row a, int i, Row x, int j, int depth) {
            if (a.kind(i) != x.kind(j) || depth > DEEPEST_MADE) {
                return false;
            }
            switch (a.kind(i)) {
                case STRING:
                    return isPart(a, i, x, j);
                case ARRAY:
                    return areElementsIn(a, i, x, j, depth);
                case OBJECT:
                    return areNamesIn(a, i, x, j, depth);
                default:
                    return a.cell(i) == x.cell(j);
            }
        }

        private static boolean isPart(Row a, int i, Row x, int j) {
            for (int k = 0; k <= a.length(i); k++) {
                if (a.hasPart(i, k, x, j)) {
                    return true;
                }
            }
            return false;
        }

        private static boolean areElementsIn(Row a, int i, Row x, int j, int depth) {
            int at = j + 1;
            for (int k = 0; k < x.length(j); k++) {
                if (!isInSome(a, i, x, at, depth)) {
                    return false;
                }
                at = x.after(at);
            }
            return true;
        }

        private static boolean isInSome(Row a, int i, Row x, int j, int depth) {
            int at = i + 1;
            for (int k = 0; k < a.length(i); k++) {
                if (isIn(a, at, x, j, depth + 1)) {
                    return true;
                }
                at = a.after(at);
            }
            return false;
        }

        private static boolean areNamesIn(Row a, int i, Row x, int j, int depth) {
            int name = j + 1;
            for (int k = 0; k < x.length(j); k++) {
                int value = x.after(name);
                int there = a.valueOf(i, x, name);
                if (there == NOWHERE || !isIn(a, there, x, value, depth + 1)) {
                    return false;
                }
                name = x.after(value);
            }
            return true;
        }

        private static int joined(Row a, Row x, Text text, Row out) {
            if (!a.is(0, ARRAY) || !x.is(0, STRING)) {
                return TYPE;
            }
            text.clear();
            int at = 1;
            for (int k = 0; k < a.length(0); k++) {
                if (a.is(at, ARRAY) || a.is(at, OBJECT)) {
                    return TYPE;
                }
                if (k > 0) {
                    text.addString(x, 0);
                }
                addShown(a, at, text);
                at = a.after(at);
            }
            out.putText(text);
            return DONE;
        }

        private static void addShown(Row a, int at, Text text) {
            if (a.is(at, STRING)) {
                text.addString(a, at);
            } else if (!a.is(at, NULL)) {
                Printer.write(a, at, text, 0);
            }
        }

        private static boolean begins(Row a, Row x) {
            return a.hasPart(0, 0, x, 0);
        }

        private static boolean ends(Row a, Row x) {
            return a.hasPart(0, a.length(0) - x.length(0), x, 0);
        }

        private static int withoutBeginning(Row a, Row x, Row out) {
            if (!areStrings(a, x) || !begins(a, x)) {
                return copy(a, 0, out);
            }
            out.putPart(a, 0, x.length(0), a.length(0));
            return DONE;
        }

        private static int withoutEnd(Row a, Row x, Row out) {
            if (!areStrings(a, x) || !ends(a, x)) {
                return copy(a, 0, out);
            }
            out.putPart(a, 0, 0, a.length(0) - x.length(0));
            return DONE;
        }

        private static int indices(Row a, Row x, Row out) {
            if (a.is(0, NULL)) {
                return nothing(out);
            }
            if (!a.is(0, ARRAY) && !areStrings(a, x)) {
                return TYPE;
            }
            boolean single = a.is(0, ARRAY) && !x.is(0, ARRAY);
            if (!single && x.length(0) == 0) {
                return nothing(out);
            }
            int head = out.open();
            int total = a.is(0, STRING) ? putStringIndices(a, x, out) : putArrayIndices(a, x, single, out);
            out.close(head, ARRAY, total);
            return DONE;
        }

        private static int putStringIndices(Row a, Row x, Row out) {
            int total = 0;
            for (int k = 0; k < a.length(0); k++) {
                if (a.hasPart(0, k, x, 0)) {
                    out.putNumber(k);
                    total++;
                }
            }
            return total;
        }

        /** What is sought is x if it is single, else the elements of x one behind the other. */
        private static int putArrayIndices(Row a, Row x, boolean single, Row out) {
            int first = single ? 0 : 1;
            int many = single ? 1 : x.length(0);
            int total = 0;
            int at = 1;
            for (int k = 0; k + many <= a.length(0); k++) {
                if (areSame(a, at, x, first, many)) {
                    out.putNumber(k);
                    total++;
                }
                at = a.after(at);
            }
            return total;
        }

        private static boolean areSame(Row a, int i, Row x, int j, int many) {
            int left = i;
            int right = j;
            for (int k = 0; k < many; k++) {
                if (a.cell(left) != x.cell(right) || Order.of(a, left, x, right, 0) != 0) {
                    return false;
                }
                left = a.after(left);
                right = x.after(right);
            }
            return true;
        }

        private static int flat(Row a, Row x, Row out) {
            if (!a.is(0, ARRAY) || !x.is(0, NUMBER)) {
                return TYPE;
            }
            if (x.number(0) < 0) {
                return RANGE;
            }
            int head = out.open();
            int total = putFlat(a, 0, x.number(0), out, 0);
            out.close(head, ARRAY, total);
            return DONE;
        }

        /** Puts the elements, those of arrays among them instead of these, and answers how many there are. */
        private static int putFlat(Row a, int array, long deep, Row out, int depth) {
            int total = 0;
            int at = array + 1;
            for (int k = 0; k < a.length(array); k++) {
                if (deep > 0 && depth < DEEPEST_MADE && a.is(at, ARRAY)) {
                    total += putFlat(a, at, deep - 1, out, depth + 1);
                } else {
                    out.putCopy(a, at);
                    total++;
                }
                at = a.after(at);
            }
            return total;
        }

        private static int at(Row a, Row x, Row out) {
            if (a.is(0, OBJECT) && x.is(0, STRING)) {
                int value = a.valueOf(0, x, 0);
                return value == NOWHERE ? nothing(out) : copy(a, value, out);
            }
            if (a.is(0, ARRAY) && x.is(0, NUMBER)) {
                return elementAt(a, x.number(0), out);
            }
            boolean ofNull = a.is(0, NULL) && (x.is(0, NULL) || x.is(0, NUMBER) || x.is(0, STRING));
            return ofNull ? nothing(out) : TYPE;
        }

        private static int elementAt(Row a, long index, Row out) {
            long fromBeginning = index < 0 ? index + a.length(0) : index;
            boolean there = fromBeginning >= 0 && fromBeginning < a.length(0);
            return there ? copy(a, a.element(0, fromBeginning), out) : nothing(out);
        }
    }

    /** What sort does; a and keys are whole rows, out takes the value, the answer is DONE or a REASON. */
    private static final class Keyed {
        static int apply(int f, Row a, Row keys, Sorter sorter, Row out) {
            if (!a.is(0, ARRAY) || !keys.is(0, ARRAY) || a.length(0) != keys.length(0)) {
                return TYPE;
            }
            sorter.arrange(keys, 0);
            sorter.attach(a, 0);
            switch (f) {
                case 0:
                    putSorted(a, sorter, out);
                    return DONE;
                case 1:
                    putGroups(a, keys, sorter, out);
                    return DONE;
                case 2:
                    putFirsts(a, keys, sorter, out);
                    return DONE;
                case 3:
                    putTurnOrNull(a, 0, sorter, out);
                    return DONE;
                default:
                    putTurnOrNull(a, a.length(0) - 1, sorter, out);
                    return DONE;
            }
        }

        private static void putSorted(Row a, Sorter sorter, Row out) {
            int head = out.open();
            for (int k = 0; k < a.length(0); k++) {
                out.putCopy(a, sorter.elementAtTurn(k));
            }
            out.close(head, ARRAY, a.length(0));
        }

        /** As sorting is stable, the first turn has the first of the least keys, the last the last of the greatest. */
        private static void putTurnOrNull(Row a, int k, Sorter sorter, Row out) {
            if (a.length(0) == 0) {
                out.putNull();
            } else {
                out.putCopy(a, sorter.elementAtTurn(k));
            }
        }

        private static boolean beginsGroup(Row keys, int k, Sorter sorter) {
            return k == 0 || Order.of(keys, sorter.keyAtTurn(k - 1), keys, sorter.keyAtTurn(k), 0) != 0;
        }

        private static void putGroups(Row a, Row keys, Sorter sorter, Row out) {
            int head = out.open();
            int total = 0;
            for (int k = 0; k < a.length(0); k++) {
                if (beginsGroup(keys, k, sorter)) {
                    putGroup(a, keys, k, sorter, out);
                    total++;
                }
            }
            out.close(head, ARRAY, total);
        }

        private static void putGroup(Row a, Row keys, int first, Sorter sorter, Row out) {
            int head = out.open();
            out.putCopy(a, sorter.elementAtTurn(first));
            int behind = first + 1;
            while (behind < a.length(0) && !beginsGroup(keys, behind, sorter)) {
                out.putCopy(a, sorter.elementAtTurn(behind));
                behind++;
            }
            out.close(head, ARRAY, behind - first);
        }

        private static void putFirsts(Row a, Row keys, Sorter sorter, Row out) {
            int head = out.open();
            int total = 0;
            for (int k = 0; k < a.length(0); k++) {
                if (beginsGroup(keys, k, sorter)) {
                    out.putCopy(a, sorter.elementAtTurn(k));
                    total++;
                }
            }
            out.close(head, ARRAY, total);
        }
    }
}
