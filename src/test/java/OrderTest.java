/** Promises 7 and 8: compare and same. */
public final class OrderTest {
    /** Each before all that come later, the same as itself alone. */
    private static final String[] ASCENDING = {
        "null", "false", "true",
        "-9007199254740991", "-10", "-9", "-1", "0", "1", "2", "10", "9007199254740991",
        "\"\"", "\"\\u0000\"", "\" \"", "\"1\"", "\"10\"", "\"2\"", "\"A\"", "\"Z\"", "\"a\"", "\"a\\u0000\"", "\"aa\"", "\"ab\"",
        "\"b\"", "\"\\u007f\"",
        "[]", "[null]", "[null,null]", "[false]", "[0]", "[0,0]", "[0,1]", "[1]", "[1,0]", "[2]", "[10]", "[\"\"]", "[[]]",
        "[[],0]", "[[0]]", "[{}]",
        "{}", "{\"\":9}", "{\"\":0,\"z\":0}", "{\"a\":1}", "{\"a\":2}", "{\"a\":[]}", "{\"b\":0,\"a\":1}", "{\"a\":1,\"b\":1}",
        "{\"b\":0,\"a\":2}", "{\"a\":1,\"b\":0,\"c\":0}", "{\"a\":0,\"c\":0}", "{\"a\":{\"y\":0},\"c\":0}", "{\"aa\":0}", "{\"b\":0}",
        "{\"b\":{\"x\":0,\"y\":1}}", "{\"b\":{\"y\":0,\"x\":1}}", "{\"c\":null}"};

    public static void main(String[] args) {
        allPairs();
        sameInAnyOrder();
        outOfRange();
        changesNothing();
        Bench.finish();
    }

    private static void allPairs() {
        for (int i = 0; i < ASCENDING.length; i++) {
            for (int j = 0; j < ASCENDING.length; j++) {
                ValueBench bench = new Bench().with(3, ASCENDING[i]).with(6, ASCENDING[j]).bench;
                String pair = ASCENDING[i] + " and " + ASCENDING[j];
                Bench.due("compare of " + pair, bench.compare(3, 6), Integer.compare(i, j));
                Bench.due("same of " + pair, bench.same(3, 6), i == j);
            }
        }
    }

    private static void sameInAnyOrder() {
        Bench.dueOrder("{\"a\":1,\"b\":2,\"c\":3}", "{\"c\":3,\"a\":1,\"b\":2}", 0);
        Bench.dueOrder("[{\"a\":{\"x\":[1],\"y\":2},\"b\":2}]", "[{\"b\":2,\"a\":{\"y\":2,\"x\":[1]}}]", 0);
        Bench.dueOrder("-0", "0", 0);
        Bench.dueOrder("\"\\u0041\\/\"", "\"A/\"", 0);
        String deep = "[".repeat(40) + "1" + "]".repeat(40);
        Bench.dueOrder(deep, deep, 0);
        String other = "[".repeat(40) + "2" + "]".repeat(40);
        ValueBench bench = new Bench().with(0, deep).with(1, other).bench;
        Bench.due("compare of two that differ 40 deep", bench.compare(0, 1), -1);
        Bench.due("compare of two that differ 40 deep, turned", bench.compare(1, 0), 1);
        Bench.due("same of two that differ 40 deep", bench.same(0, 1), false);
        Bench.due("compare of a register with itself", bench.compare(0, 0), 0);
    }

    private static void outOfRange() {
        for (int r : new int[] {-1, 8, Integer.MIN_VALUE, Integer.MAX_VALUE}) {
            Bench x = new Bench();
            Bench.due("compare(" + r + ", 0)", x.outcome(() -> x.bench.compare(r, 0)), Bench.ARGUMENT);
            Bench.due("compare(0, " + r + ")", x.outcome(() -> x.bench.compare(0, r)), Bench.ARGUMENT);
            Bench.due("same(" + r + ", 0)", x.outcome(() -> x.bench.same(r, 0)), Bench.ARGUMENT);
            Bench.due("same(0, " + r + ")", x.outcome(() -> x.bench.same(0, r)), Bench.ARGUMENT);
        }
    }

    private static void changesNothing() {
        Bench x = new Bench().with(0, "{\"b\":1,\"a\":2}").with(1, "{\"a\":2,\"b\":1}");
        x.bench.compare(0, 1);
        x.bench.same(0, 1);
        Bench.due("first register after compare", x.shown(0), "{\"b\":1,\"a\":2}");
        Bench.due("second register after compare", x.shown(1), "{\"a\":2,\"b\":1}");
    }
}
