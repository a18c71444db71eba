/** The boundary cases of what is thrown, in which order, and that nothing changes then, a test for each sentence of the Terms. */
public final class BoundaryThrowsTest {
    private static final int[] OUT_OF_RANGE = {-1, 14, Integer.MIN_VALUE, Integer.MAX_VALUE};
    private static final String FIRST_TAPE = "[1,\"tape\"]";

    /** A call on an object whose state is known. */
    private interface Call {
        void on(ValueBench bench);
    }

    public static void main(String[] args) {
        Bench.sentence("REFUSED: ArithmeticException, with a REASON: 1 \"type\"", () -> dueReason(1, BoundaryThrowsTest::type));
        Bench.sentence("REFUSED: ArithmeticException, with a REASON: 2 \"range\"", () -> dueReason(2, BoundaryThrowsTest::range));
        Bench.sentence("REFUSED: ArithmeticException, with a REASON: 3 \"zero\"", () -> dueReason(3, BoundaryThrowsTest::zero));
        Bench.sentence("REFUSED: ArithmeticException, with a REASON: 4 \"number\"", () -> dueReason(4, BoundaryThrowsTest::number));
        Bench.sentence("REFUSED: ArithmeticException, with a REASON: 5 \"json\"", () -> dueReason(5, BoundaryThrowsTest::json));
        Bench.sentence("in this order: IllegalArgumentException before ArithmeticException", BoundaryThrowsTest::argumentBeforeRefused);
        Bench.sentence("in this order: IllegalArgumentException before IndexOutOfBoundsException", BoundaryThrowsTest::argumentBeforeLimits);
        Bench.sentence("in this order: ArithmeticException before IndexOutOfBoundsException", BoundaryThrowsTest::refusedBeforeLimits);
        Bench.sentence("A call that throws changes nothing: IllegalArgumentException", BoundaryThrowsTest::nothingChangesByArguments);
        Bench.sentence("A call that throws changes nothing (but the REASON): ArithmeticException", BoundaryThrowsTest::nothingChangesByRefusals);
        Bench.sentence("A call that throws changes nothing: IndexOutOfBoundsException", BoundaryThrowsTest::nothingChangesByLimits);
        Bench.sentence("A call that throws changes nothing: UnsupportedOperationException, but TAPE and PLACE", BoundaryThrowsTest::brokenRead);
        Bench.finish();
    }

    /** Eight values, a tape, a result, a PLACE of 4 and a REASON of 3, by calls that are always the same. */
    private static Bench withAll(String tape) {
        Bench x = new Bench().with(0, "0");
        x.outcome(() -> {
            x.bench.binary(0, 3, 0, 0);
            return null;
        });
        x.with(1, "9007199254740991").with(2, "\"x\"").with(3, "[128,0]").with(4, "{\"b\":1,\"a\":[null]}");
        x.with(5, Bench.array("0", 2047)).with(6, Bench.letters(4094)).with(7, "[" + Bench.letters(2045) + ",[]]");
        x.tape("[12 x").outcome(() -> x.bench.read(0));
        x.bench.print(4);
        return x.tape(tape);
    }

    /** All that calls can tell of an object; to tell it changes the result and the tape, so it is done last. */
    private static String told(Bench x) {
        StringBuilder told = new StringBuilder();
        for (int what = 0; what < 3; what++) {
            told.append(x.bench.count(what)).append(' ');
        }
        for (int i = 0; i < x.bench.count(1); i++) {
            told.append(Long.toHexString(x.bench.word(i))).append(' ');
        }
        for (int r = 0; r < 8; r++) {
            told.append(x.shown(r)).append(' ');
        }
        told.append(x.outcome(() -> x.bench.read(0))).append(' ').append(x.shown(0));
        return told.toString();
    }

    private static void dueUnchanged(String tape, String outcome, int reason, Call call) {
        Bench x = withAll(tape);
        Bench.due("a call", x.outcome(() -> {
            call.on(x.bench);
            return null;
        }), outcome);
        Bench.due("the reason after " + outcome, x.bench.count(3), reason);
        Bench.due("all else after " + outcome, told(x), told(withAll(tape)));
    }

    private static void dueRefused(int reason, Call call) {
        dueUnchanged(FIRST_TAPE, "refused " + reason, reason, call);
    }

    private static void type(ValueBench bench) {
        bench.binary(0, 1, 2, 2);
    }

    private static void range(ValueBench bench) {
        bench.binary(0, 2, 1, 1);
    }

    private static void zero(ValueBench bench) {
        bench.binary(0, 4, 1, 0);
    }

    private static void number(ValueBench bench) {
        bench.one(0, 5, 2);
    }

    private static void json(ValueBench bench) {
        bench.one(0, 7, 2);
    }

    private static void dueReason(int reason, Call call) {
        Bench x = withAll("");
        String thrown = "nothing";
        try {
            call.on(x.bench);
        } catch (RuntimeException e) {
            thrown = e.getClass().getSimpleName();
        }
        Bench.due("what is thrown", thrown, "ArithmeticException");
        Bench.due("its reason", x.bench.count(3), reason);
    }

    private static void dueArgument(Call call) {
        dueUnchanged(FIRST_TAPE, Bench.ARGUMENT, 3, call);
    }

    /** With null in all registers - is refused, so are keys, has and sort. */
    private static void argumentBeforeRefused() {
        for (int n : OUT_OF_RANGE) {
            dueOnNew(bench -> bench.binary(n, 1, 0, 0));
            dueOnNew(bench -> bench.binary(0, n, 0, 0));
            dueOnNew(bench -> bench.binary(0, 1, n, 0));
            dueOnNew(bench -> bench.binary(0, 1, 0, n));
            dueOnNew(bench -> bench.one(n, 2, 0));
            dueOnNew(bench -> bench.one(0, n, 0));
            dueOnNew(bench -> bench.one(0, 2, n));
            dueOnNew(bench -> bench.two(n, 0, 0, 0));
            dueOnNew(bench -> bench.two(0, n, 0, 0));
            dueOnNew(bench -> bench.two(0, 0, n, 0));
            dueOnNew(bench -> bench.two(0, 0, 0, n));
            dueOnNew(bench -> bench.sort(n, 0, 0, 0));
            dueOnNew(bench -> bench.sort(0, n, 0, 0));
            dueOnNew(bench -> bench.sort(0, 0, n, 0));
            dueOnNew(bench -> bench.sort(0, 0, 0, n));
        }
    }

    private static void dueOnNew(Call call) {
        Bench x = new Bench();
        Bench.due("a call with a number out of range", x.outcome(() -> {
            call.on(x.bench);
            return null;
        }), Bench.ARGUMENT);
        Bench.due("the reason after it", x.bench.count(3), 0);
    }

    private static void argumentBeforeLimits() {
        for (int n : new int[] {-1, 8, Integer.MIN_VALUE, Integer.MAX_VALUE}) {
            dueArgument(bench -> bench.binary(n, 0, 6, 6));
            dueArgument(bench -> bench.one(n, 6, 6));
            dueArgument(bench -> bench.two(n, 7, 5, 0));
            dueArgument(bench -> bench.sort(n, 1, 5, 5));
        }
    }

    private static void refusedBeforeLimits() {
        String sign = Bench.letters(900);
        Bench.dueTwo(2, "[\"" + "a".repeat(3900) + "\",1,[]]", sign, Bench.TYPE);
        Bench.dueTwo(2, "[" + "0,".repeat(500) + "{}]", sign, Bench.TYPE);
        Bench.dueTwo(2, "[" + "0,".repeat(500) + "1]", sign, Bench.LIMIT);
        Bench.dueOne(11, "[" + "0,".repeat(700) + "128]", Bench.RANGE);
        Bench.dueOne(11, "[" + "0,".repeat(700) + "-1]", Bench.RANGE);
        Bench.dueOne(11, "[" + "0,".repeat(700) + "\"\"]", Bench.TYPE);
        Bench.dueOne(11, "[" + "0,".repeat(700) + "127]", Bench.LIMIT);
        Bench.dueSort(1, Bench.array("0", 2047), Bench.array("0", 2046), Bench.TYPE);
        Bench.dueTwo(8, Bench.array("0", 2047), "-1", Bench.RANGE);
        Bench.dueBinary(0, Bench.letters(4094), Bench.array("0", 2047), Bench.TYPE);
    }

    private static void nothingChangesByArguments() {
        for (int n : new int[] {-1, 8, Integer.MIN_VALUE, Integer.MAX_VALUE}) {
            dueArgument(bench -> bench.read(n));
            dueArgument(bench -> bench.print(n));
            dueArgument(bench -> bench.count(n));
            dueArgument(bench -> bench.compare(n, 0));
            dueArgument(bench -> bench.same(0, n));
            dueArgument(bench -> bench.binary(0, 0, n, 1));
            dueArgument(bench -> bench.binary(0, n, 1, 1));
            dueArgument(bench -> bench.one(0, 0, n));
            dueArgument(bench -> bench.two(0, 3, 1, n));
            dueArgument(bench -> bench.sort(0, 0, 5, n));
        }
        for (int n : OUT_OF_RANGE) {
            dueArgument(bench -> bench.end(n));
            dueArgument(bench -> bench.one(0, n, 1));
            dueArgument(bench -> bench.two(0, n, 1, 1));
            dueArgument(bench -> bench.sort(0, n, 5, 5));
        }
        dueArgument(bench -> bench.end(FIRST_TAPE.length() + 1));
    }

    private static void nothingChangesByRefusals() {
        dueRefused(1, BoundaryThrowsTest::type);
        dueRefused(2, BoundaryThrowsTest::range);
        dueRefused(3, BoundaryThrowsTest::zero);
        dueRefused(4, BoundaryThrowsTest::number);
        dueRefused(5, BoundaryThrowsTest::json);
        // Into the register that is asked, or into one that is long.
        dueRefused(1, bench -> bench.binary(4, 0, 4, 2));
        dueRefused(1, bench -> bench.binary(5, 1, 5, 4));
        dueRefused(2, bench -> bench.one(3, 11, 3));
        dueRefused(1, bench -> bench.one(6, 8, 6));
        dueRefused(5, bench -> bench.one(6, 7, 6));
        dueRefused(4, bench -> bench.one(6, 5, 6));
        dueRefused(1, bench -> bench.two(7, 2, 7, 6));
        dueRefused(1, bench -> bench.two(5, 8, 5, 5));
        dueRefused(1, bench -> bench.two(4, 9, 4, 1));
        dueRefused(1, bench -> bench.sort(5, 0, 5, 3));
        dueRefused(1, bench -> bench.sort(3, 4, 3, 2));
    }

    private static void dueLimit(Call call) {
        dueUnchanged(FIRST_TAPE, Bench.LIMIT, 3, call);
    }

    private static void nothingChangesByLimits() {
        dueLimit(bench -> bench.binary(6, 0, 6, 6));
        dueLimit(bench -> bench.binary(5, 0, 5, 5));
        dueLimit(bench -> bench.binary(2, 2, 1, 2));
        dueLimit(bench -> bench.one(5, 2, 5));
        dueLimit(bench -> bench.one(6, 6, 6));
        dueLimit(bench -> bench.one(6, 10, 6));
        dueLimit(bench -> bench.one(0, 4, 5));
        dueLimit(bench -> bench.two(5, 2, 5, 6));
        dueLimit(bench -> bench.two(0, 7, 5, 0));
        dueLimit(bench -> bench.sort(5, 1, 5, 5));
        dueLimit(bench -> bench.word(-1));
        dueLimit(bench -> bench.word(18));
        dueLimit(bench -> bench.word(Integer.MAX_VALUE));
        dueUnchanged("[7]" + " ".repeat(4074), Bench.LIMIT, 3, bench -> bench.feed(0, 0, 0, 0, 0));
        dueUnchanged("[7]" + " ".repeat(4093), Bench.LIMIT, 3, bench -> bench.feed(1, 2, 3, 4, 5));
    }

    private static void brokenRead() {
        Bench x = withAll("[1,\"a");
        Bench.due("read of what is broken", x.outcome(() -> x.bench.read(4)), Bench.BROKEN);
        Bench.due("the tape after it", x.bench.count(0), 0);
        Bench.due("the result after it", x.bench.count(1), 18);
        Bench.due("the place after it", x.bench.count(2), 5);
        Bench.due("the reason after it", x.bench.count(3), 3);
        Bench y = withAll("");
        for (int i = 0; i < 18; i++) {
            Bench.due("word(" + i + ") after it", x.bench.word(i), y.bench.word(i));
        }
        for (int r = 0; r < 8; r++) {
            Bench.due("register " + r + " after it", x.shown(r), y.shown(r));
        }
    }
}
