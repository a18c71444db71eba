/** LIMITS: what is made too deep or too long, by which order of throwing, and that nothing changes then. */
public final class LimitsTest {
    public static void main(String[] args) {
        depth();
        differentAtTheDeepest();
        deepObjects();
        refusedBeforeLimits();
        length();
        Bench.finish();
    }

    /** Wraps register 0, an array of one element, in one more array. */
    private static String wrap(Bench x) {
        return x.outcome(() -> {
            x.bench.sort(0, 1, 0, 1);
            return null;
        });
    }

    private static void depth() {
        Bench x = new Bench().with(0, "[7]").with(1, "[0]");
        for (int deep = 2; deep <= 60; deep++) {
            Bench.due("wrap to " + deep, wrap(x), "done");
        }
        String sixty = "[".repeat(60) + "7" + "]".repeat(60);
        Bench.due("an array 60 deep", x.shown(0), sixty);
        Bench.due("wrap to 61", wrap(x), Bench.LIMIT);
        Bench.due("the array after that", x.shown(0), sixty);
        x.bench.sort(2, 0, 0, 1);
        Bench.due("compare of arrays 60 deep", x.bench.compare(0, 2), 0);
        Bench.due("same of arrays 60 deep", x.bench.same(0, 2), true);
        x.bench.two(3, 1, 0, 2);
        Bench.due("contains of arrays 60 deep", x.shown(3), "true");
        x.with(4, "100");
        x.bench.two(3, 8, 0, 4);
        Bench.due("flatten of an array 60 deep", x.shown(3), "[7]");
        x.bench.one(3, 6, 0);
        Bench.due("tojson of an array 60 deep", x.shown(3), "\"" + sixty + "\"");
        Bench.due("fromjson of an array 60 deep", x.outcome(() -> {
            x.bench.one(3, 7, 3);
            return null;
        }), Bench.NO_JSON);
        x.bench.binary(3, 0, 0, 0);
        String inner = sixty.substring(1, sixty.length() - 1);
        Bench.due("+ of arrays 60 deep", x.shown(3), "[" + inner + "," + inner + "]");
    }

    private static Bench wrappedToSixty(String first, String second) {
        Bench x = new Bench().with(0, first).with(1, "[0]");
        for (int k = 0; k < 20; k++) {
            wrap(x);
        }
        x.bench.sort(2, 0, 0, 1);
        x.with(0, second);
        for (int k = 0; k < 20; k++) {
            wrap(x);
        }
        return x;
    }

    private static void differentAtTheDeepest() {
        String inner = "{\"a\":".repeat(39);
        String closing = "}".repeat(39) + "]";
        Bench x = wrappedToSixty("[" + inner + "7" + closing, "[" + inner + "8" + closing);
        Bench.due("compare of values that differ 60 deep", x.bench.compare(2, 0), -1);
        Bench.due("compare of values that differ 60 deep, turned", x.bench.compare(0, 2), 1);
        Bench.due("same of values that differ 60 deep", x.bench.same(0, 2), false);
        x.bench.two(3, 1, 0, 2);
        Bench.due("contains of values that differ 60 deep", x.shown(3), "false");
        Bench y = wrappedToSixty("[" + inner + "\"ab\"" + closing, "[" + inner + "\"b\"" + closing);
        y.bench.two(3, 1, 2, 0);
        Bench.due("contains of a part 60 deep", y.shown(3), "true");
    }

    /** Objects within one another, with a value in the last. */
    private static String objects(int deep, String value) {
        return "{\"a\":".repeat(deep) + value + "}".repeat(deep);
    }

    private static void deepObjects() {
        Bench x = new Bench().with(0, "[" + objects(39, "0") + "]").with(1, "[0]");
        for (int deep = 41; deep <= 60; deep++) {
            Bench.due("wrap of objects to " + deep, wrap(x), "done");
        }
        Bench.due("wrap of objects to 61", wrap(x), Bench.LIMIT);
        Bench y = new Bench().with(2, objects(39, "{\"x\":1,\"z\":0}")).with(3, objects(39, "{\"y\":2,\"x\":3}"));
        y.bench.binary(4, 2, 2, 3);
        Bench.due("* of objects 40 deep", y.shown(4), objects(39, "{\"x\":3,\"z\":0,\"y\":2}"));
        Bench.due("compare of objects 40 deep", y.bench.compare(2, 3), 1);
        y.bench.two(5, 1, 4, 3);
        Bench.due("contains of objects 40 deep", y.shown(5), "true");
    }

    private static void refusedBeforeLimits() {
        Bench.dueTwo(2, "[" + "\"" + "a".repeat(3000) + "\",[]]", Bench.letters(900), Bench.TYPE);
        Bench.dueOne(11, Bench.array("0", 700).replace("]", ",\"a\"]"), Bench.TYPE);
        Bench.dueOne(11, Bench.array("0", 700).replace("]", ",-1]"), Bench.RANGE);
    }

    private static void length() {
        // Each " counts two bytes where it is printed.
        String quotes = "\"" + "\\\"".repeat(2047) + "\"";
        Bench.dueOne(9, quotes, quotes);
        Bench.dueBinary(0, quotes, "\"a\"", Bench.LIMIT);
        Bench.dueOne(4, quotes, quotes);
        Bench.dueOne(6, quotes, Bench.LIMIT);
        Bench.dueBinary(0, "{\"a\":" + Bench.letters(2000) + "}", "{\"b\":" + Bench.letters(2081) + "}",
                "{\"a\":" + Bench.letters(2000) + ",\"b\":" + Bench.letters(2081) + "}");
        Bench.dueBinary(0, "{\"a\":" + Bench.letters(2000) + "}", "{\"b\":" + Bench.letters(2082) + "}", Bench.LIMIT);
        Bench.dueBinary(2, "{\"o\":{\"a\":" + Bench.letters(2000) + "}}", "{\"o\":{\"b\":" + Bench.letters(2075) + "}}",
                "{\"o\":{\"a\":" + Bench.letters(2000) + ",\"b\":" + Bench.letters(2075) + "}}");
        Bench.dueBinary(2, "{\"o\":{\"a\":" + Bench.letters(2000) + "}}", "{\"o\":{\"b\":" + Bench.letters(2076) + "}}", Bench.LIMIT);
    }
}
