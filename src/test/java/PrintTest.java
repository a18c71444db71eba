/** Promises 5 and 12: print and word. */
public final class PrintTest {
    public static void main(String[] args) {
        everyCharacter();
        prints();
        words();
        Bench.finish();
    }

    private static void everyCharacter() {
        for (int code = 0; code < 128; code++) {
            Bench x = new Bench().with(0, String.format("{\"\\u%04X\":\"\\u%04x\"}", code, code));
            String want = "{\"" + Bench.printed(code) + "\":\"" + Bench.printed(code) + "\"}";
            Bench.due("print of character " + code, x.shown(0), want);
            Bench.due("length of character " + code, x.bench.print(0), want.length());
        }
    }

    private static void prints() {
        Bench x = new Bench().with(5, "[10,-20,9007199254740991,-9007199254740991,100000]");
        Bench.due("print", x.shown(5), "[10,-20,9007199254740991,-9007199254740991,100000]");
        Bench.due("bytes of the result", x.bench.count(1), 50);
        for (int r : new int[] {-1, 8, Integer.MIN_VALUE, Integer.MAX_VALUE}) {
            Bench.due("print(" + r + ")", x.outcome(() -> x.bench.print(r)), Bench.ARGUMENT);
        }
        Bench.due("result after prints out of range", x.bench.count(1), 50);
        x.with(5, "7");
        x.bench.one(6, 6, 5);
        Bench.due("result after read and one", x.bench.count(1), 50);
        Bench.due("word of the old result", x.bench.word(0), 0x5b31302c2d32302cL);
        Bench.due("print of a shorter value", x.bench.print(5), 1);
        Bench.due("word of the new result", x.bench.word(0), 0x3700000000000000L);
        Bench.due("bytes of the new result", x.bench.count(1), 1);
        Bench y = new Bench().with(0, Bench.letters(4094));
        Bench.due("print of the longest value", y.bench.print(0), 4096);
        Bench.due("last word of the longest value", y.bench.word(4088), 0x6161616161616122L);
        Bench.due("last byte of the longest value", y.bench.word(4095), 0x2200000000000000L);
        Bench.due("byte behind the longest value", y.outcome(() -> y.bench.word(4096)), Bench.LIMIT);
    }

    private static void words() {
        Bench x = new Bench();
        Bench.due("word(0) of no result", x.outcome(() -> x.bench.word(0)), Bench.LIMIT);
        x.with(0, "[1,22,333]").shown(0);
        Bench.due("word(0)", x.bench.word(0), 0x5b312c32322c3333L);
        Bench.due("word(1)", x.bench.word(1), 0x312c32322c333333L);
        Bench.due("word(2)", x.bench.word(2), 0x2c32322c3333335dL);
        Bench.due("word(3)", x.bench.word(3), 0x32322c3333335d00L);
        Bench.due("word(9)", x.bench.word(9), 0x5d00000000000000L);
        for (int i : new int[] {10, 11, -1, -8, Integer.MIN_VALUE, Integer.MAX_VALUE}) {
            Bench.due("word(" + i + ")", x.outcome(() -> x.bench.word(i)), Bench.LIMIT);
        }
        Bench.due("result after words that are none", x.bench.count(1), 10);
    }
}
