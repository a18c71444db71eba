/** The boundary cases of THE TAPE, THE RESULT and LIMITS in the document's Terms, a test for each sentence and each call that can meet it. */
public final class BoundaryLimitsTest {
    private static final String SIXTY = "[".repeat(60) + "7" + "]".repeat(60);

    public static void main(String[] args) {
        Bench.sentence("THE TAPE and THE RESULT have at most 4096 bytes", BoundaryLimitsTest::tapeAndResult);
        Bench.sentence("more than 60 ARRAYS within one another", BoundaryLimitsTest::arrays);
        Bench.sentence("more than 60 ARRAYS and OBJECTS within one another", BoundaryLimitsTest::arraysAndObjects);
        Bench.sentence("60 ARRAYS within one another, in each call", BoundaryLimitsTest::callsOfTheDeepest);
        Bench.sentence("60 ARRAYS and OBJECTS, different in the last", BoundaryLimitsTest::differentInTheLast);
        Bench.sentence("OBJECTS 40 deep, put together", BoundaryLimitsTest::deepObjectsTogether);
        Bench.sentence("a WEIGHT above 60000, which no VALUE of 4096 bytes has", BoundaryLimitsTest::weight);
        Bench.sentence("PRINTED with more than 4096 bytes: +", BoundaryLimitsTest::plus);
        Bench.sentence("PRINTED with more than 4096 bytes: *", BoundaryLimitsTest::times);
        Bench.sentence("PRINTED with more than 4096 bytes: /", BoundaryLimitsTest::pieces);
        Bench.sentence("PRINTED with more than 4096 bytes: keys", BoundaryLimitsTest::keys);
        Bench.sentence("PRINTED with more than 4096 bytes: tostring, tojson", BoundaryLimitsTest::toStringAndJson);
        Bench.sentence("PRINTED with more than 4096 bytes: explode, implode", BoundaryLimitsTest::codes);
        Bench.sentence("PRINTED with more than 4096 bytes: join", BoundaryLimitsTest::join);
        Bench.sentence("PRINTED with more than 4096 bytes: indices, at", BoundaryLimitsTest::indices);
        Bench.sentence("PRINTED with more than 4096 bytes: groups", BoundaryLimitsTest::groups);
        Bench.sentence("PRINTED with 4096 bytes: what does not grow", BoundaryLimitsTest::callsOfTheLongest);
        Bench.finish();
    }

    private static void tapeAndResult() {
        Bench x = new Bench().tape(Bench.letters(4094));
        Bench.due("bytes of a full tape", x.bench.count(0), 4096);
        Bench.due("feed of a full tape", x.outcome(() -> x.bench.feed(0, 0, 0, 0, 0)), Bench.LIMIT);
        Bench.due("bytes of a full tape after that", x.bench.count(0), 4096);
        Bench.due("read of a full tape", x.bench.read(0), 4096);
        Bench.due("a full result", x.bench.print(0), 4096);
        Bench.due("bytes of a full result", x.bench.count(1), 4096);
        Bench.due("the last bytes of a full result", x.bench.word(4088), 0x6161616161616122L);
    }

    /** Groups of one element are register 0 within one more ARRAY. */
    private static String wrap(Bench x) {
        return x.outcome(() -> {
            x.bench.sort(0, 1, 0, 1);
            return null;
        });
    }

    /** Register 0 with a value that is 40 deep, 20 times wrapped. */
    private static Bench wrappedTwenty(String forty) {
        Bench x = new Bench().with(0, forty).with(1, "[0]");
        for (int k = 1; k <= 20; k++) {
            Bench.due("wrap to " + (40 + k), wrap(x), "done");
        }
        return x;
    }

    private static void dueDeepest(String forty) {
        Bench x = wrappedTwenty(forty);
        String sixty = "[".repeat(20) + forty + "]".repeat(20);
        Bench.due("a value 60 deep", x.shown(0), sixty);
        Bench.due("wrap to 61", wrap(x), Bench.LIMIT);
        Bench.due("the value after that", x.shown(0), sixty);
        Bench.due("reason of that", x.bench.count(3), 0);
    }

    private static void arrays() {
        dueDeepest("[".repeat(40) + "]".repeat(40));
        dueDeepest("[".repeat(40) + "7" + "]".repeat(40));
        dueDeepest("[" + "[".repeat(39) + "]".repeat(39) + "]");
        Bench x = new Bench().with(0, "[0,[" + "[".repeat(38) + "]".repeat(38) + "]]").with(1, "[0,0]").with(2, "[0]");
        x.bench.sort(0, 1, 0, 1);
        for (int deep = 42; deep <= 60; deep++) {
            x.bench.sort(0, 1, 0, 2);
        }
        Bench.due("a value whose second element is the deepest, to 61", x.outcome(() -> {
            x.bench.sort(0, 1, 0, 2);
            return null;
        }), Bench.LIMIT);
    }

    private static void arraysAndObjects() {
        dueDeepest("[" + "{\"a\":".repeat(38) + "{}" + "}".repeat(38) + "]");
        dueDeepest("[" + "{\"a\":".repeat(39) + "7" + "}".repeat(39) + "]");
        dueDeepest("[{\"a\":".repeat(20) + "\"[[{{\"" + "}]".repeat(20));
    }

    private static void dueMade(Bench x, String what, Runnable call, String want) {
        String outcome = x.outcome(() -> {
            call.run();
            return null;
        });
        Bench.due(what, outcome.equals("done") ? x.shown(3) : outcome, want);
    }

    private static void callsOfTheDeepest() {
        Bench x = wrappedTwenty("[".repeat(40) + "7" + "]".repeat(40));
        String within = SIXTY.substring(1, 120);
        x.with(4, "0").with(5, "59").with(6, "1");
        dueMade(x, "itself", () -> x.bench.two(3, 3, 0, 4), SIXTY);
        x.bench.binary(2, 0, 0, 7);
        Bench.due("compare", x.bench.compare(0, 2), 0);
        Bench.due("same", x.bench.same(0, 2), true);
        dueMade(x, "+", () -> x.bench.binary(3, 0, 0, 2), "[" + within + "," + within + "]");
        dueMade(x, "-", () -> x.bench.binary(3, 1, 0, 2), "[]");
        dueMade(x, "length", () -> x.bench.one(3, 1, 0), "1");
        dueMade(x, "tostring", () -> x.bench.one(3, 4, 0), "\"" + SIXTY + "\"");
        dueMade(x, "tojson", () -> x.bench.one(3, 6, 0), "\"" + SIXTY + "\"");
        dueMade(x, "fromjson of tojson", () -> x.bench.one(3, 7, 3), Bench.NO_JSON);
        dueMade(x, "sort of one", () -> x.bench.one(3, 8, 0), SIXTY);
        dueMade(x, "reverse", () -> x.bench.one(3, 9, 0), SIXTY);
        dueMade(x, "contains", () -> x.bench.two(3, 1, 0, 2), "true");
        dueMade(x, "indices", () -> x.bench.two(3, 7, 0, 2), "[0]");
        dueMade(x, "flatten 0", () -> x.bench.two(3, 8, 0, 4), SIXTY);
        dueMade(x, "flatten 1", () -> x.bench.two(3, 8, 0, 6), within);
        dueMade(x, "flatten 59", () -> x.bench.two(3, 8, 0, 5), "[7]");
        dueMade(x, "at 0", () -> x.bench.two(3, 9, 0, 4), within);
        dueMade(x, "sort by itself", () -> x.bench.sort(3, 0, 0, 0), SIXTY);
        dueMade(x, "groups by itself", () -> x.bench.sort(3, 1, 0, 0), Bench.LIMIT);
        dueMade(x, "the first of each group", () -> x.bench.sort(3, 2, 0, 0), SIXTY);
        dueMade(x, "the least", () -> x.bench.sort(3, 3, 0, 0), within);
        dueMade(x, "the greatest", () -> x.bench.sort(3, 4, 0, 0), within);
    }

    private static Bench pairOfDeepest(String first, String second) {
        Bench x = wrappedTwenty(first);
        x.bench.binary(2, 0, 0, 7);
        x.with(0, second);
        for (int k = 0; k < 20; k++) {
            wrap(x);
        }
        return x;
    }

    private static void differentInTheLast() {
        String open = "[" + "{\"a\":".repeat(39);
        String closed = "}".repeat(39) + "]";
        Bench x = pairOfDeepest(open + "7" + closed, open + "8" + closed);
        Bench.due("compare", x.bench.compare(2, 0), -1);
        Bench.due("compare, turned", x.bench.compare(0, 2), 1);
        Bench.due("same", x.bench.same(0, 2), false);
        dueMade(x, "-", () -> x.bench.binary(3, 1, 0, 2), "[".repeat(20) + open + "8" + closed + "]".repeat(20));
        dueMade(x, "contains", () -> x.bench.two(3, 1, 0, 2), "false");
        dueMade(x, "indices", () -> x.bench.two(3, 7, 0, 2), "[]");
        Bench y = pairOfDeepest(open + "\"abc\"" + closed, open + "\"b\"" + closed);
        dueMade(y, "contains a part", () -> y.bench.two(3, 1, 2, 0), "true");
    }

    private static void deepObjectsTogether() {
        String open = "{\"a\":".repeat(39);
        String closed = "}".repeat(39);
        Bench.dueBinary(2, open + "{\"x\":1,\"z\":0}" + closed, open + "{\"y\":2,\"x\":3}" + closed,
                open + "{\"x\":3,\"z\":0,\"y\":2}" + closed);
        Bench.dueBinary(0, open + "{\"x\":1,\"z\":0}" + closed, open + "{\"y\":2,\"x\":3}" + closed, open + "{\"y\":2,\"x\":3}" + closed);
        Bench.dueTwo(1, open + "{\"x\":3,\"z\":0,\"y\":2}" + closed, open + "{\"y\":2,\"x\":3}" + closed, "true");
        Bench.dueOrder(open + "{\"z\":0,\"x\":1}" + closed, open + "{\"y\":2,\"x\":3}" + closed, 1);
    }

    /** Of all VALUES with 4096 bytes the longest STRING weighs most, 4095. */
    private static void weight() {
        Bench.dueBinary(2, "\"a\"", "4094", Bench.letters(4094));
        Bench.dueBinary(0, Bench.array("0", 1023), Bench.array("0", 1024), Bench.array("0", 2047));
        Bench.dueRead("{\"" + "a".repeat(4090) + "\":0}", "{\"" + "a".repeat(4090) + "\":0}");
    }

    private static String named(String name, int letters) {
        return "{\"" + name + "\":" + Bench.letters(letters) + "}";
    }

    private static void plus() {
        Bench.dueBinary(0, Bench.letters(2000), Bench.letters(2094), Bench.letters(4094));
        Bench.dueBinary(0, Bench.letters(2000), Bench.letters(2095), Bench.LIMIT);
        Bench.dueBinary(0, Bench.letters(4094), Bench.letters(4094), Bench.LIMIT);
        Bench.dueBinary(0, Bench.letters(4094), "\"\"", Bench.letters(4094));
        // Each of these has one byte, but two where it is PRINTED.
        String quotes = "\\\"".repeat(2046);
        Bench.dueBinary(0, "\"" + quotes + "\"", "\"\\\"\"", "\"" + quotes + "\\\"\"");
        Bench.dueBinary(0, "\"" + quotes + "\"", "\"\\\"a\"", Bench.LIMIT);
        Bench.dueBinary(0, Bench.array("0", 1000), "[10" + ",0".repeat(1046) + "]", "[0" + ",0".repeat(999) + ",10" + ",0".repeat(1046) + "]");
        Bench.dueBinary(0, Bench.array("0", 1000), "[100" + ",0".repeat(1046) + "]", Bench.LIMIT);
        Bench.dueBinary(0, Bench.array("0", 1000), Bench.array("0", 1048), Bench.LIMIT);
        Bench.dueBinary(0, named("a", 2000), named("b", 2081), "{\"a\":" + Bench.letters(2000) + ",\"b\":" + Bench.letters(2081) + "}");
        Bench.dueBinary(0, named("a", 2000), named("b", 2082), Bench.LIMIT);
        Bench.dueBinary(0, named("a", 2000), named("a", 4088), named("a", 4088));
    }

    private static void times() {
        Bench.dueBinary(2, "\"a\"", "4095", Bench.LIMIT);
        Bench.dueBinary(2, "\"ab\"", "2047", "\"" + "ab".repeat(2047) + "\"");
        Bench.dueBinary(2, "2048", "\"ab\"", Bench.LIMIT);
        Bench.dueBinary(2, "\"\\n\"", "2047", "\"" + "\\n".repeat(2047) + "\"");
        Bench.dueBinary(2, "\"\\n\"", "2048", Bench.LIMIT);
        for (String times : new String[] {"65536", "4294967296", "4294967297", "9007199254740991"}) {
            Bench.dueBinary(2, "\"a\"", times, Bench.LIMIT);
            Bench.dueBinary(2, times, "\"abc\"", Bench.LIMIT);
        }
        Bench.dueBinary(2, "{\"o\":" + named("a", 2000) + "}", "{\"o\":" + named("b", 2075) + "}",
                "{\"o\":{\"a\":" + Bench.letters(2000) + ",\"b\":" + Bench.letters(2075) + "}}");
        Bench.dueBinary(2, "{\"o\":" + named("a", 2000) + "}", "{\"o\":" + named("b", 2076) + "}", Bench.LIMIT);
    }

    private static void pieces() {
        String letters = "a".repeat(1020);
        String pieces = "\"a\",".repeat(1020);
        Bench.dueBinary(3, "\"" + letters + "\\n\\n\\n\"", "\"\"", "[" + pieces + "\"\\n\",\"\\n\",\"\\n\"]");
        Bench.dueBinary(3, "\"" + letters + "\\n\\n\\n\\n\"", "\"\"", Bench.LIMIT);
        Bench.dueBinary(3, Bench.letters(4094), "\"\"", Bench.LIMIT);
        Bench.dueBinary(3, "\"" + ",".repeat(1364) + "\"", "\",\"", Bench.array("\"\"", 1365));
        Bench.dueBinary(3, "\"" + ",".repeat(1365) + "\"", "\",\"", Bench.LIMIT);
        Bench.dueBinary(3, Bench.letters(4092), "\"b\"", "[" + Bench.letters(4092) + "]");
        Bench.dueBinary(3, Bench.letters(4093), "\"b\"", Bench.LIMIT);
    }

    /** 0, 1, .. in 4096 bytes. */
    private static String numbers(int many) {
        StringBuilder numbers = new StringBuilder("[");
        for (int k = 0; k < many; k++) {
            numbers.append(k == 0 ? "" : ",").append(k);
        }
        return numbers.append("]").toString();
    }

    private static void keys() {
        Bench.due("bytes of 1041 keys", numbers(1041).length(), 4096);
        for (int f = 2; f <= 3; f++) {
            Bench.dueOne(f, Bench.array("0", 1041), numbers(1041));
            Bench.dueOne(f, Bench.array("0", 1042), Bench.LIMIT);
            Bench.dueOne(f, Bench.array("0", 2047), Bench.LIMIT);
        }
        String name = Bench.letters(4090);
        Bench.dueOne(2, "{" + name + ":0}", "[" + name + "]");
    }

    private static void toStringAndJson() {
        for (int f : new int[] {4, 6}) {
            Bench.dueOne(f, "[10" + ",0".repeat(2045) + "]", "\"[10" + ",0".repeat(2045) + "]\"");
            Bench.dueOne(f, "[100" + ",0".repeat(2045) + "]", Bench.LIMIT);
            Bench.dueOne(f, "[" + Bench.letters(4088) + "]", "\"[\\\"" + "a".repeat(4088) + "\\\"]\"");
            Bench.dueOne(f, "[" + Bench.letters(4089) + "]", Bench.LIMIT);
        }
        Bench.dueOne(4, Bench.letters(4094), Bench.letters(4094));
        Bench.dueOne(6, Bench.letters(4090), "\"\\\"" + "a".repeat(4090) + "\\\"\"");
        Bench.dueOne(6, Bench.letters(4091), Bench.LIMIT);
    }

    private static void codes() {
        Bench.dueOne(10, Bench.letters(1365), Bench.array("97", 1365));
        Bench.dueOne(10, "\"" + "a".repeat(1364) + "d\"", Bench.LIMIT);
        Bench.dueOne(10, Bench.letters(1366), Bench.LIMIT);
        Bench.dueOne(11, "[10" + ",0".repeat(682) + "]", "\"\\n" + "\\u0000".repeat(682) + "\"");
        Bench.dueOne(11, "[97,10" + ",0".repeat(682) + "]", Bench.LIMIT);
        Bench.dueOne(11, Bench.array("1", 2047), Bench.LIMIT);
    }

    private static void join() {
        String sign = "\"" + "-".repeat(9) + "\"";
        String joined = ("0" + "-".repeat(9)).repeat(409);
        Bench.dueTwo(2, "[" + "0,".repeat(409) + "1000]", sign, "\"" + joined + "1000\"");
        Bench.dueTwo(2, "[" + "0,".repeat(409) + "10000]", sign, Bench.LIMIT);
        Bench.dueTwo(2, Bench.array("0", 2047), sign, Bench.LIMIT);
        Bench.dueTwo(2, "[\"" + "\\n".repeat(1023) + "\",null]", "\"" + "\\n".repeat(1024) + "\"", "\"" + "\\n".repeat(2047) + "\"");
        Bench.dueTwo(2, "[\"" + "\\n".repeat(1023) + "\",0]", "\"" + "\\n".repeat(1024) + "\"", Bench.LIMIT);
    }

    private static void indices() {
        Bench.dueTwo(7, Bench.letters(1041), "\"a\"", numbers(1041));
        Bench.dueTwo(7, Bench.letters(1042), "\"a\"", Bench.LIMIT);
        Bench.dueTwo(7, Bench.array("0", 1041), "0", numbers(1041));
        Bench.dueTwo(7, Bench.array("0", 1042), "0", Bench.LIMIT);
        Bench.dueTwo(9, Bench.array("0", 1042), "[0,0]", numbers(1041));
        Bench.dueTwo(9, Bench.array("0", 1043), "[0,0]", Bench.LIMIT);
    }

    private static void groups() {
        String keys = numbers(1023);
        Bench.dueSort(1, "[1000" + ",0".repeat(1022) + "]", keys, "[[1000]" + ",[0]".repeat(1022) + "]");
        Bench.dueSort(1, "[10000" + ",0".repeat(1022) + "]", keys, Bench.LIMIT);
        Bench.dueSort(1, "[" + Bench.letters(4090) + "]", "[0]", "[[" + Bench.letters(4090) + "]]");
        Bench.dueSort(1, "[" + Bench.letters(4091) + "]", "[0]", Bench.LIMIT);
    }

    private static void callsOfTheLongest() {
        String most = "[10" + ",0".repeat(2046) + "]";
        String sorted = "[0" + ",0".repeat(2045) + ",10]";
        Bench.dueOne(8, most, sorted);
        Bench.dueOne(9, most, sorted);
        Bench.dueSort(0, most, most, sorted);
        Bench.dueSort(2, most, most, "[0,10]");
        Bench.dueTwo(8, most, "1", most);
        Bench.dueTwo(3, most, "\"a\"", most);
        Bench.dueBinary(0, most, "null", most);
        Bench.dueBinary(1, most, "[]", most);
        Bench.dueOne(12, Bench.letters(4094), Bench.letters(4094));
        Bench.dueOne(13, Bench.letters(4094), "\"" + "A".repeat(4094) + "\"");
        Bench.dueOne(9, Bench.letters(4094), Bench.letters(4094));
        Bench.dueTwo(4, Bench.letters(4094), "\"\"", Bench.letters(4094));
    }
}
