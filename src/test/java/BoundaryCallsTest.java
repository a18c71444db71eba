/** The boundary cases of promises 1 to 8, 12 and 13, a test for each sentence; what JSON can stand is in BoundaryJsonTest. */
public final class BoundaryCallsTest {
    private static final int[] NO_REGISTERS = {-1, 8, 9, Integer.MIN_VALUE, Integer.MAX_VALUE};

    public static void main(String[] args) {
        Bench.sentence("ValueBench(): All REGISTERS are null", BoundaryCallsTest::newObject);
        Bench.sentence("feed: The 20 bytes of five ints, the highest of each first", BoundaryCallsTest::bytesOfInts);
        Bench.sentence("feed: it would have more than 4096: IndexOutOfBoundsException", BoundaryCallsTest::fullTape);
        Bench.sentence("feed: Answers its length", BoundaryCallsTest::lengthOfTape);
        Bench.sentence("end: The TAPE keeps its first n bytes", BoundaryCallsTest::firstBytes);
        Bench.sentence("end: n 0 .. its length", BoundaryCallsTest::endRange);
        Bench.sentence("end: Answers n", BoundaryCallsTest::endAnswers);
        Bench.sentence("read: r 0 .. 7 (so for all registers)", BoundaryCallsTest::registersOutOfRange);
        Bench.sentence("read: The TAPE, which is empty then", BoundaryCallsTest::tapeIsEmptyThen);
        Bench.sentence("read: (also if this throws, but for r)", BoundaryCallsTest::tapeIfThrown);
        Bench.sentence("read: Broken: UnsupportedOperationException, PLACE is told", BoundaryCallsTest::broken);
        Bench.sentence("read: Answers how many bytes it has PRINTED", BoundaryCallsTest::readAnswers);
        Bench.sentence("print: THE RESULT is REGISTER r PRINTED", BoundaryCallsTest::result);
        Bench.sentence("print: Answers how many bytes", BoundaryCallsTest::printAnswers);
        Bench.sentence("binary: op 0 + 1 - 2 * 3 / 4 %", BoundaryCallsTest::operators);
        Bench.sentence("binary: REGISTER to is that of a and b (the first one before)", BoundaryCallsTest::firstBefore);
        Bench.sentence("compare: -1, 0, 1 by ORDER", BoundaryCallsTest::compares);
        Bench.sentence("same: Whether they are the same", BoundaryCallsTest::sames);
        Bench.sentence("word: 8 bytes of THE RESULT from i on, the highest first", BoundaryCallsTest::words);
        Bench.sentence("word: zeros behind its end", BoundaryCallsTest::zerosBehind);
        Bench.sentence("word: i is none of its bytes: IndexOutOfBoundsException", BoundaryCallsTest::noByte);
        Bench.sentence("count: 0, 1 bytes of the TAPE, of THE RESULT", BoundaryCallsTest::countsOfBytes);
        Bench.sentence("count: 2 PLACE of the latest read, -1 if it told none, or before", BoundaryCallsTest::places);
        Bench.sentence("count: 3 REASON of the latest call that was REFUSED, 0 before", BoundaryCallsTest::reasons);
        Bench.sentence("count: what 0 .. 3", BoundaryCallsTest::whatOutOfRange);
        Bench.finish();
    }

    private static void newObject() {
        Bench x = new Bench();
        for (int r = 0; r < 8; r++) {
            Bench.due("register " + r + " of a new object", x.shown(r), "null");
            Bench.due("registers 0 and " + r + " are the same", x.bench.same(0, r), true);
        }
    }

    /** A byte that can't stand in a STRING tells by PLACE where it came to. */
    private static void bytesOfInts() {
        for (int high : new int[] {0x00, 0x1f, 0x7f, 0x80, 0xff}) {
            for (int k = 1; k < 20; k++) {
                int[] five = {0x22616161, 0x61616161, 0x61616161, 0x61616161, 0x61616161};
                int shift = 24 - 8 * (k % 4);
                five[k / 4] = five[k / 4] & ~(255 << shift) | high << shift;
                Bench x = new Bench();
                Bench.due("feed", x.bench.feed(five[0], five[1], five[2], five[3], five[4]), 20);
                Bench.due("read with a byte " + high, x.outcome(() -> x.bench.read(0)), Bench.BROKEN);
                Bench.due("place of byte " + high, x.bench.count(2), k);
            }
        }
        Bench x = new Bench();
        x.bench.feed(0x22303132, 0x33343536, 0x37383961, 0x62636465, 0x66676822);
        x.bench.read(0);
        Bench.due("what was fed", x.shown(0), "\"0123456789abcdefgh\"");
    }

    private static int blanks(Bench x) {
        return x.bench.feed(0x20202020, 0x20202020, 0x20202020, 0x20202020, 0x20202020);
    }

    private static void fullTape() {
        for (int kept : new int[] {4096, 4095, 4080, 4077}) {
            Bench x = new Bench().tape("7" + " ".repeat(kept - 1));
            Bench.due("feed behind " + kept, x.outcome(() -> x.bench.feed(0, 0, 0, 0, 0)), Bench.LIMIT);
            Bench.due("tape behind " + kept, x.bench.count(0), kept);
            Bench.due("read of what was kept", x.outcome(() -> x.bench.read(0)), "1");
        }
        Bench x = new Bench().tape("7" + " ".repeat(4075));
        Bench.due("feed behind 4076", x.outcome(() -> blanks(x)), "4096");
        Bench.due("feed behind that", x.outcome(() -> blanks(x)), Bench.LIMIT);
        Bench.due("read of a full tape", x.outcome(() -> x.bench.read(0)), "1");
        Bench.due("feed of an empty tape", x.outcome(() -> blanks(x)), "20");
    }

    private static void lengthOfTape() {
        Bench x = new Bench();
        for (int k = 1; k <= 204; k++) {
            Bench.due("feed " + k, blanks(x), 20 * k);
        }
        x.bench.end(1);
        Bench.due("feed behind 1", blanks(x), 21);
        x.bench.end(0);
        Bench.due("feed behind 0", blanks(x), 20);
    }

    private static void firstBytes() {
        String digits = "1234567890123456";
        for (int n = 1; n <= digits.length(); n++) {
            Bench x = new Bench().tape(digits);
            x.bench.end(n);
            Bench.due("bytes after end(" + n + ")", x.bench.count(0), n);
            x.bench.read(0);
            Bench.due("value after end(" + n + ")", x.shown(0), digits.substring(0, n));
        }
        Bench x = new Bench().tape("12");
        x.bench.end(1);
        x.bench.feed(0x39000000, 0, 0, 0, 0);
        x.bench.end(2);
        x.bench.read(0);
        Bench.due("what came behind the end", x.shown(0), "19");
    }

    private static void endRange() {
        for (int length : new int[] {0, 1, 20, 4096}) {
            for (int n : new int[] {-1, length + 1, Integer.MIN_VALUE, Integer.MAX_VALUE}) {
                Bench x = new Bench().tape(" ".repeat(length));
                Bench.due("end(" + n + ") of " + length, x.outcome(() -> x.bench.end(n)), Bench.ARGUMENT);
                Bench.due("tape after end(" + n + ")", x.bench.count(0), length);
            }
        }
        Bench x = new Bench().tape("12345");
        x.bench.end(3);
        Bench.due("end(4) of 3", x.outcome(() -> x.bench.end(4)), Bench.ARGUMENT);
    }

    private static void endAnswers() {
        for (int length : new int[] {0, 1, 20, 4096}) {
            Bench x = new Bench().tape(" ".repeat(length));
            Bench.due("end(" + length + ")", x.bench.end(length), length);
            Bench.due("end(" + length / 2 + ")", x.bench.end(length / 2), length / 2);
            Bench.due("end(0)", x.bench.end(0), 0);
        }
    }

    private static void registersOutOfRange() {
        Bench x = new Bench().tape("7");
        for (int r : NO_REGISTERS) {
            dueArgument(x, "read(" + r + ")", () -> x.bench.read(r));
            dueArgument(x, "print(" + r + ")", () -> x.bench.print(r));
            dueArgument(x, "compare(" + r + ", 0)", () -> x.bench.compare(r, 0));
            dueArgument(x, "compare(0, " + r + ")", () -> x.bench.compare(0, r));
            dueArgument(x, "same(" + r + ", 0)", () -> x.bench.same(r, 0));
            dueArgument(x, "same(0, " + r + ")", () -> x.bench.same(0, r));
            dueArgument(x, "binary(" + r + ", 0, 0, 0)", () -> x.bench.binary(r, 0, 0, 0));
            dueArgument(x, "binary(0, 0, " + r + ", 0)", () -> x.bench.binary(0, 0, r, 0));
            dueArgument(x, "binary(0, 0, 0, " + r + ")", () -> x.bench.binary(0, 0, 0, r));
            dueArgument(x, "one(" + r + ", 0, 0)", () -> x.bench.one(r, 0, 0));
            dueArgument(x, "one(0, 0, " + r + ")", () -> x.bench.one(0, 0, r));
            dueArgument(x, "two(" + r + ", 3, 0, 0)", () -> x.bench.two(r, 3, 0, 0));
            dueArgument(x, "two(0, 3, " + r + ", 0)", () -> x.bench.two(0, 3, r, 0));
            dueArgument(x, "two(0, 3, 0, " + r + ")", () -> x.bench.two(0, 3, 0, r));
            dueArgument(x, "sort(" + r + ", 0, 0, 0)", () -> x.bench.sort(r, 0, 0, 0));
            dueArgument(x, "sort(0, 0, " + r + ", 0)", () -> x.bench.sort(0, 0, r, 0));
            dueArgument(x, "sort(0, 0, 0, " + r + ")", () -> x.bench.sort(0, 0, 0, r));
        }
        for (int r = 0; r < 8; r++) {
            int s = 7 - r;
            Bench y = new Bench().with(r, "[7]");
            y.bench.binary(s, 0, r, r);
            y.bench.one(s, 9, s);
            y.bench.two(s, 3, s, r);
            y.bench.sort(s, 0, s, s);
            Bench.due("register " + s + " by way of register " + r, y.shown(s), "[7,7]");
            Bench.due("compare(" + r + ", " + s + ")", y.bench.compare(r, s), -1);
            Bench.due("same(" + s + ", " + r + ")", y.bench.same(s, r), false);
        }
    }

    private static void dueArgument(Bench x, String what, Runnable call) {
        Bench.due(what, x.outcome(() -> {
            call.run();
            return null;
        }), Bench.ARGUMENT);
        Bench.due("reason after " + what, x.bench.count(3), 0);
        Bench.due("tape after " + what, x.bench.count(0), 1);
    }

    private static void tapeIsEmptyThen() {
        Bench x = new Bench().with(0, "[1,2]");
        Bench.due("tape after read", x.bench.count(0), 0);
        Bench.due("end(1) after read", x.outcome(() -> x.bench.end(1)), Bench.ARGUMENT);
        Bench.due("feed after read", blanks(x), 20);
        Bench.due("read of blanks after a whole one", x.outcome(() -> x.bench.read(0)), Bench.BROKEN);
        Bench.due("its place", x.bench.count(2), 20);
    }

    private static void tapeIfThrown() {
        Bench x = new Bench().tape("[1,");
        Bench.due("read of broken JSON", x.outcome(() -> x.bench.read(0)), Bench.BROKEN);
        Bench.due("tape after broken JSON", x.bench.count(0), 0);
        x.tape("[1]");
        for (int r : NO_REGISTERS) {
            Bench.due("read(" + r + ")", x.outcome(() -> x.bench.read(r)), Bench.ARGUMENT);
            Bench.due("tape after read(" + r + ")", x.bench.count(0), 3);
            Bench.due("place after read(" + r + ")", x.bench.count(2), 3);
        }
        Bench.due("read of what stayed", x.bench.read(7), 3);
        Bench.due("what stayed", x.shown(7), "[1]");
    }

    private static void broken() {
        Bench.dueBroken("", 0);
        Bench.dueBroken("x", 0);
        Bench.dueBroken("[7]8", 3);
        for (int r = 0; r < 8; r++) {
            int register = r;
            Bench x = new Bench().with(r, "[7]").tape("[8");
            Bench.due("read(" + r + ") of [8", x.outcome(() -> x.bench.read(register)), Bench.BROKEN);
            Bench.due("register " + r + " after that", x.shown(r), "[7]");
        }
    }

    private static void readAnswers() {
        Bench.dueRead("0", "0");
        Bench.dueRead(" \n0\t", "0");
        Bench.dueRead("-0", "0");
        Bench.dueRead("\"\\u0041\\/\\u000a\\u0001\"", "\"A/\\n\\u0001\"");
        Bench.dueRead("[ ]", "[]");
        Bench.dueRead(Bench.letters(4094), Bench.letters(4094));
        Bench.dueRead("\"" + "\\u0061".repeat(682) + "\"  ", Bench.letters(682));
        Bench.dueRead("\"" + "\\u0000".repeat(682) + "\"", "\"" + "\\u0000".repeat(682) + "\"");
    }

    private static void result() {
        Bench x = new Bench().with(1, Bench.letters(4094)).with(2, "[]");
        Bench.due("the longest result", x.shown(1), Bench.letters(4094));
        Bench.due("a short one behind it", x.shown(2), "[]");
        Bench.due("null behind it", x.shown(0), "null");
        x.with(2, "7");
        x.bench.binary(2, 0, 2, 2);
        Bench.due("bytes of the result after other calls", x.bench.count(1), 4);
        Bench.due("the result after other calls", x.bench.word(0), 0x6e756c6c00000000L);
    }

    private static void printAnswers() {
        String[] values = {"0", "-1", "null", "true", "false", "\"\"", "[]", "{}", "\"\\u0000\\n\"", Bench.letters(4094), Bench.array("0", 2047)};
        for (String value : values) {
            Bench x = new Bench().with(6, value);
            Bench.due("print of " + Bench.brief(value), x.bench.print(6), value.length());
            Bench.due("bytes of " + Bench.brief(value), x.bench.count(1), value.length());
        }
    }

    private static void operators() {
        String[] due = {"9", "5", "14", "3", "1"};
        for (int op = 0; op < 5; op++) {
            Bench.dueBinary(op, "7", "2", due[op]);
        }
        for (int op : new int[] {-1, 5, 6, Integer.MIN_VALUE, Integer.MAX_VALUE}) {
            Bench.dueBinary(op, "7", "2", Bench.ARGUMENT);
        }
    }

    private static void firstBefore() {
        Bench.dueBinary(0, "\"a\"", "\"b\"", "\"ab\"");
        Bench.dueBinary(1, "2", "7", "-5");
        Bench.dueBinary(3, "2", "7", "0");
        Bench.dueBinary(4, "2", "7", "2");
        Bench x = new Bench().with(0, "[1]").with(1, "[2]");
        x.bench.binary(0, 0, 0, 1);
        Bench.due("the first register is that of both", x.shown(0), "[1,2]");
        x.bench.binary(1, 1, 0, 1);
        Bench.due("the second register is that of both", x.shown(1), "[1]");
        x.bench.binary(1, 0, 1, 1);
        Bench.due("a register and itself into itself", x.shown(1), "[1,1]");
    }

    private static void compares() {
        Bench.dueAscending("null", "0", "1000000", "\"\"", "\"zz\"", "[]", "{}");
        Bench x = new Bench().with(3, "{\"a\":[1,{\"b\":2}]}");
        for (int r = 0; r < 8; r++) {
            Bench.due("compare(" + r + ", " + r + ")", x.bench.compare(r, r), 0);
        }
    }

    private static void sames() {
        Bench x = new Bench().with(3, "{\"a\":1,\"b\":2}").with(4, "{\"b\":2,\"a\":1}").with(5, "{\"b\":1,\"a\":2}");
        Bench.due("same(3, 4)", x.bench.same(3, 4), true);
        Bench.due("same(4, 5)", x.bench.same(4, 5), false);
        Bench.due("same(6, 7)", x.bench.same(6, 7), true);
        Bench.due("same(3, 3)", x.bench.same(3, 3), true);
    }

    private static void words() {
        Bench x = new Bench().with(0, "\"ABCDEFGH\"");
        x.bench.print(0);
        Bench.due("word(0)", x.bench.word(0), 0x2241424344454647L);
        Bench.due("word(1)", x.bench.word(1), 0x4142434445464748L);
        Bench.due("word(2)", x.bench.word(2), 0x4243444546474822L);
        Bench y = new Bench().with(0, "\"" + "a".repeat(4087) + "ABCDEFG\"");
        y.bench.print(0);
        Bench.due("word(4088)", y.bench.word(4088), 0x4142434445464722L);
    }

    private static void zerosBehind() {
        Bench x = new Bench().with(0, "12345678").with(1, "9");
        x.bench.print(0);
        Bench.due("word(1) of 8 bytes", x.bench.word(1), 0x3233343536373800L);
        Bench.due("word(7) of 8 bytes", x.bench.word(7), 0x3800000000000000L);
        x.bench.print(1);
        Bench.due("word(0) of 1 byte, where 8 stood", x.bench.word(0), 0x3900000000000000L);
        Bench y = new Bench().with(0, Bench.letters(4094));
        y.bench.print(0);
        Bench.due("word(4095)", y.bench.word(4095), 0x2200000000000000L);
        Bench.due("word(4089)", y.bench.word(4089), 0x6161616161612200L);
    }

    private static void noByte() {
        Bench x = new Bench().with(0, "7").with(1, Bench.letters(4094));
        for (int i : new int[] {0, 1, -1, Integer.MIN_VALUE, Integer.MAX_VALUE}) {
            Bench.due("word(" + i + ") of no result", x.outcome(() -> x.bench.word(i)), Bench.LIMIT);
        }
        x.bench.print(1);
        for (int i : new int[] {4096, 4097, -1, Integer.MIN_VALUE, Integer.MAX_VALUE, Integer.MAX_VALUE - 7}) {
            Bench.due("word(" + i + ") of 4096 bytes", x.outcome(() -> x.bench.word(i)), Bench.LIMIT);
        }
        x.bench.print(0);
        for (int i : new int[] {1, 2, -1, 4095}) {
            Bench.due("word(" + i + ") of 1 byte", x.outcome(() -> x.bench.word(i)), Bench.LIMIT);
        }
        Bench.due("word(0) of 1 byte", x.bench.word(0), 0x3700000000000000L);
    }

    private static void countsOfBytes() {
        Bench x = new Bench();
        Bench.due("tape at first", x.bench.count(0), 0);
        Bench.due("result at first", x.bench.count(1), 0);
        x.tape(Bench.letters(4094));
        Bench.due("full tape", x.bench.count(0), 4096);
        Bench.due("result still", x.bench.count(1), 0);
        x.bench.read(0);
        x.bench.print(0);
        Bench.due("tape after read", x.bench.count(0), 0);
        Bench.due("full result", x.bench.count(1), 4096);
        x.bench.print(1);
        Bench.due("shorter result", x.bench.count(1), 4);
    }

    private static void duePlace(Bench x, String json, int place) {
        x.tape(json).outcome(() -> x.bench.read(0));
        Bench.due("place of " + json, x.bench.count(2), place);
    }

    private static void places() {
        Bench x = new Bench();
        Bench.due("place before", x.bench.count(2), -1);
        x.tape("7");
        Bench.due("place before, with a tape", x.bench.count(2), -1);
        duePlace(x, "", 0);
        duePlace(x, "[1,x]", 3);
        duePlace(x, "[1]", -1);
        duePlace(x, "\"", 1);
        x.bench.print(0);
        x.bench.binary(0, 0, 1, 1);
        x.with(1, "\"x\"");
        Bench.due("place after a whole read", x.bench.count(2), -1);
        duePlace(x, " x", 1);
        x.outcome(() -> {
            x.bench.one(0, 7, 1);
            return null;
        });
        Bench.due("place after a fromjson that is refused", x.bench.count(2), 1);
        x.outcome(() -> x.bench.read(8));
        Bench.due("place after a read of no register", x.bench.count(2), 1);
        duePlace(x, " ".repeat(4096), 4096);
    }

    private static void dueReason(Bench x, Runnable call, int reason) {
        x.outcome(() -> {
            call.run();
            return null;
        });
        Bench.due("reason", x.bench.count(3), reason);
    }

    private static void reasons() {
        Bench x = new Bench().with(0, "9007199254740991").with(1, "0").with(2, "\"x\"").with(3, "[]");
        Bench.due("reason before", x.bench.count(3), 0);
        dueReason(x, () -> x.bench.binary(7, 0, 1, 1), 0);
        dueReason(x, () -> x.bench.binary(8, 0, 1, 2), 0);
        dueReason(x, () -> x.bench.binary(7, 2, 0, 2), 0);
        dueReason(x, () -> x.bench.one(7, 7, 2), 5);
        dueReason(x, () -> x.bench.one(7, 5, 2), 4);
        dueReason(x, () -> x.bench.binary(7, 4, 0, 1), 3);
        dueReason(x, () -> x.bench.binary(7, 2, 0, 0), 2);
        dueReason(x, () -> x.bench.binary(7, 3, 0, 2), 1);
        dueReason(x, () -> x.bench.binary(7, 3, 0, 1), 3);
        dueReason(x, () -> x.bench.binary(7, 0, 1, 1), 3);
        dueReason(x, () -> x.bench.binary(7, 2, 0, 2), 3);
        dueReason(x, () -> x.bench.sort(7, 5, 2, 2), 3);
        dueReason(x, () -> x.bench.read(0), 3);
        dueReason(x, () -> x.bench.sort(7, 0, 2, 2), 1);
        dueReason(x, () -> x.bench.two(7, 8, 3, 0), 1);
    }

    private static void whatOutOfRange() {
        Bench x = new Bench();
        for (int what : new int[] {-1, 4, 5, Integer.MIN_VALUE, Integer.MAX_VALUE}) {
            Bench.due("count(" + what + ")", x.outcome(() -> x.bench.count(what)), Bench.ARGUMENT);
        }
        int[] due = {0, 0, -1, 0};
        for (int what = 0; what < 4; what++) {
            Bench.due("count(" + what + ")", x.bench.count(what), due[what]);
        }
    }
}
