import java.nio.ByteBuffer;
import java.nio.charset.StandardCharsets;
import java.util.Arrays;

/** What README.md shows a caller: its example, its two methods, and what is thrown and told. */
public final class ReadmeTest {
    public static void main(String[] args) {
        example();
        textsOfAnyLength();
        whatIsThrown();
        Bench.finish();
    }

    private static void example() {
        ValueBench bench = new ValueBench();
        Bench.due("feed", bench.feed(0x5b332c31, 0x2c325d00, 0, 0, 0), 20);
        Bench.due("end", bench.end(7), 7);
        Bench.due("read", bench.read(0), 7);
        bench.one(1, 8, 0);
        Bench.due("print", bench.print(1), 7);
        Bench.due("word", bench.word(0), 0x5b312c322c335d00L);
    }

    static int read(ValueBench bench, int r, String json) {
        byte[] bytes = json.getBytes(StandardCharsets.ISO_8859_1);
        for (int i = 0; i < bytes.length; i += 20) {
            int begin = bench.end(Math.min(i, 4096 - 20));
            ByteBuffer ints = ByteBuffer.wrap(Arrays.copyOfRange(bytes, begin, begin + 20));
            bench.feed(ints.getInt(), ints.getInt(), ints.getInt(), ints.getInt(), ints.getInt());
        }
        bench.end(bytes.length);
        return bench.read(r);
    }

    static String printed(ValueBench bench, int r) {
        int length = bench.print(r);
        ByteBuffer bytes = ByteBuffer.allocate(length + 8);
        for (int i = 0; i < length; i += 8) {
            bytes.putLong(bench.word(i));
        }
        return new String(bytes.array(), 0, length, StandardCharsets.ISO_8859_1);
    }

    private static void textsOfAnyLength() {
        for (int length : new int[] {2, 8, 9, 19, 20, 21, 40, 41, 4079, 4080, 4081, 4095, 4096}) {
            ValueBench bench = new ValueBench();
            String json = Bench.letters(length - 2);
            Bench.due("read of a text of " + length, read(bench, 5, json), length);
            Bench.due("print of a text of " + length, printed(bench, 5), json);
        }
    }

    private static void whatIsThrown() {
        Bench x = new Bench();
        Bench.due("a register out of range", x.outcome(() -> read(x.bench, 8, "1")), Bench.ARGUMENT);
        Bench.due("the tape stays", x.bench.count(0), 1);
        x.bench.end(0);
        Bench.due("no JSON", x.outcome(() -> read(x.bench, 0, "[1,]")), Bench.BROKEN);
        Bench.due("the tape is empty", x.bench.count(0), 0);
        Bench.due("the place", x.bench.count(2), 3);
        Bench.due("no reason yet", x.bench.count(3), 0);
        read(x.bench, 1, "\"a\"");
        Bench.due("no place", x.bench.count(2), -1);
        Bench.due("what can't be done", x.outcome(() -> {
            x.bench.binary(2, 1, 1, 1);
            return null;
        }), Bench.TYPE);
        Bench.due("the register stays", printed(x.bench, 2), "null");
        read(x.bench, 3, "5000");
        Bench.due("too long a value", x.outcome(() -> {
            x.bench.binary(2, 2, 1, 3);
            return null;
        }), Bench.LIMIT);
        Bench.due("a text that the tape has no room for", x.outcome(() -> read(x.bench, 0, " ".repeat(4097))), Bench.ARGUMENT);
        Bench.due("no byte of the result", x.outcome(() -> x.bench.word(4)), Bench.LIMIT);
        Bench.due("bytes of the result", x.bench.count(1), 4);
    }
}
