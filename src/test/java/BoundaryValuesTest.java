/** The boundary cases of VALUES, the same, ORDER and REGISTERS in the document's Terms, a test for each sentence. */
public final class BoundaryValuesTest {
    private static final String GREATEST = "9007199254740991";
    private static final String TOO_GREAT = "9007199254740992";

    public static void main(String[] args) {
        Bench.sentence("NUMBERS, whole, at most 2^53 - 1 in size", BoundaryValuesTest::greatestNumber);
        Bench.sentence("STRINGS of characters 0 .. 127", BoundaryValuesTest::characters);
        Bench.sentence("OBJECTS (names are STRINGS, in the order in which they came)", BoundaryValuesTest::names);
        Bench.sentence("The same: NUMBERS, STRINGS as such", BoundaryValuesTest::sameAsSuch);
        Bench.sentence("The same: ARRAYS one by one", BoundaryValuesTest::sameArrays);
        Bench.sentence("The same: OBJECTS by names in any order", BoundaryValuesTest::sameObjects);
        Bench.sentence("ORDER: null, false, true, NUMBERS, STRINGS, ARRAYS, OBJECTS", BoundaryValuesTest::orderOfKinds);
        Bench.sentence("ORDER: NUMBERS", BoundaryValuesTest::orderOfNumbers);
        Bench.sentence("ORDER: STRINGS (character by character)", BoundaryValuesTest::orderOfStrings);
        Bench.sentence("ORDER: ARRAYS (element by element, a beginning before the longer one)", BoundaryValuesTest::orderOfArrays);
        Bench.sentence("ORDER: OBJECTS (their names, sorted, as ARRAYS ..)", BoundaryValuesTest::orderOfNames);
        Bench.sentence("ORDER: OBJECTS (.. then the VALUES by these names)", BoundaryValuesTest::orderOfValuesByNames);
        Bench.sentence("REGISTERS 0 .. 7 hold a VALUE each, null at first", BoundaryValuesTest::registers);
        Bench.sentence("nothing else is kept between calls", BoundaryValuesTest::nothingElseIsKept);
        Bench.finish();
    }

    private static void greatestNumber() {
        for (String sign : new String[] {"", "-"}) {
            Bench.dueRead(sign + GREATEST, sign + GREATEST);
            Bench.dueBroken(sign + TOO_GREAT, 0);
            Bench.dueBroken(sign + GREATEST + "0", 0);
            Bench.dueOne(5, "\"" + sign + GREATEST + "\"", sign + GREATEST);
            Bench.dueOne(5, "\"" + sign + TOO_GREAT + "\"", Bench.NO_NUMBER);
            Bench.dueOne(7, "\"" + sign + GREATEST + "\"", sign + GREATEST);
            Bench.dueOne(7, "\"" + sign + TOO_GREAT + "\"", Bench.NO_JSON);
            Bench.dueOne(1, sign + GREATEST, GREATEST);
            Bench.dueOne(6, sign + GREATEST, "\"" + sign + GREATEST + "\"");
        }
        Bench.dueBroken("1.0", 1);
        Bench.dueBroken("0.5", 1);
    }

    private static void characters() {
        for (int code = 0; code < 128; code++) {
            Bench x = new Bench().with(0, String.format("\"\\u%04x\"", code));
            x.bench.one(1, 10, 0);
            Bench.due("the code of character " + code, x.shown(1), "[" + code + "]");
            x.bench.one(1, 11, 1);
            Bench.due("character " + code + " from its code is the same", x.bench.same(0, 1), true);
        }
        Bench.dueBroken("\"\\u0080\"", 1);
        Bench.dueOne(11, "[128]", Bench.RANGE);
        Bench.dueOne(11, "[-1]", Bench.RANGE);
    }

    private static void names() {
        Bench.dueRead("{\"b\":1,\"\":2,\"a\":3,\"10\":4,\"9\":5}", "{\"b\":1,\"\":2,\"a\":3,\"10\":4,\"9\":5}");
        Bench.dueRead("{\"\\u0000\":1,\"\\u007f\":2,\"\\n\":3}", "{\"\\u0000\":1,\"\\u007f\":2,\"\\n\":3}");
        for (String noName : new String[] {"null", "true", "1", "[]", "{}"}) {
            Bench.dueBroken("{" + noName + ":1}", 1);
        }
        Bench.dueBinary(0, "{\"b\":1,\"a\":2}", "{\"c\":3,\"a\":4}", "{\"b\":1,\"a\":4,\"c\":3}");
        Bench.dueOne(3, "{\"b\":1,\"\":2,\"a\":3}", "[\"b\",\"\",\"a\"]");
    }

    private static void sameAsSuch() {
        for (String value : new String[] {"null", "false", "true", "0", "1", "-1", GREATEST, "-" + GREATEST, "\"\"", "\"a\"", "\"\\u0000\""}) {
            Bench.dueOrder(value, value, 0);
        }
        Bench.dueOrder("-0", "0", 0);
        Bench.dueOrder("\"\\u0061\\u000A\"", "\"a\\n\"", 0);
        Bench.dueOrder("9007199254740990", GREATEST, -1);
        Bench.dueOrder("-1", "1", -1);
        Bench.dueOrder("1", "\"1\"", -1);
        Bench.dueOrder("\"A\"", "\"a\"", -1);
        Bench.dueOrder("\"\"", "\"\\u0000\"", -1);
        Bench.dueOrder("null", "false", -1);
        Bench.dueOrder("0", "\"\"", -1);
    }

    private static void sameArrays() {
        Bench.dueOrder("[]", "[]", 0);
        Bench.dueOrder("[1,[\"a\",null]]", "[ 1, [\"\\u0061\" , null ] ]", 0);
        Bench.dueOrder("[1,2]", "[2,1]", -1);
        Bench.dueOrder("[]", "[null]", -1);
        Bench.dueOrder("[[]]", "[[],[]]", -1);
        Bench.dueOrder("[\"a\",\"b\"]", "[\"ab\",\"\"]", -1);
        Bench.dueOrder("[1]", "[[1]]", -1);
        String most = Bench.array("0", 2047);
        Bench.dueOrder(most, most, 0);
        Bench.dueOrder(most, most.substring(0, 4093) + "1]", -1);
    }

    private static void sameObjects() {
        Bench.dueOrder("{}", "{}", 0);
        Bench.dueOrder("{\"a\":1,\"b\":2,\"\":3}", "{\"\":3,\"b\":2,\"a\":1}", 0);
        Bench.dueOrder("{\"a\":{\"x\":1,\"y\":{\"p\":1,\"q\":2}}}", "{\"a\":{\"y\":{\"q\":2,\"p\":1},\"x\":1}}", 0);
        Bench.dueOrder("{\"a\":1,\"b\":2}", "{\"a\":2,\"b\":1}", -1);
        Bench.dueOrder("{\"a\":1}", "{\"a\":1,\"b\":null}", -1);
        Bench.dueOrder("{\"a\":1}", "{\"b\":1}", -1);
        Bench.dueOrder("{}", "{\"\":null}", -1);
        Bench.dueOrder("[]", "{}", -1);
    }

    private static void orderOfKinds() {
        Bench.dueAscending("null", "false", "true", "-" + GREATEST, GREATEST, "\"\"", "\"\\u007f\"", "[]", "[{}]", "{}", "{\"\":null}");
    }

    private static void orderOfNumbers() {
        Bench.dueAscending("-" + GREATEST, "-9007199254740990", "-4294967296", "-10", "-9", "-1", "0", "1", "9", "10", "4294967296",
                "9007199254740990", GREATEST);
    }

    private static void orderOfStrings() {
        Bench.dueAscending("\"\"", "\"\\u0000\"", "\"\\u0000\\u0000\"", "\"\\u0001\"", "\" \"", "\"10\"", "\"9\"", "\"Z\"", "\"a\"",
                "\"a\\u0000\"", "\"aZ\"", "\"aa\"", "\"ab\"", "\"b\"", "\"~\"", "\"\\u007f\"");
        String letters = "a".repeat(4093);
        Bench.dueOrder("\"" + letters + "\"", "\"" + letters + "a\"", -1);
        Bench.dueOrder("\"" + letters + "a\"", "\"" + letters + "b\"", -1);
    }

    private static void orderOfArrays() {
        Bench.dueAscending("[]", "[null]", "[null,null]", "[null,{}]", "[false]", "[0]", "[0,0]", "[0,0,0]", "[0,1]", "[1]", "[[]]",
                "[[],[]]", "[[null]]", "[[0],0]", "[{}]");
    }

    private static void orderOfNames() {
        Bench.dueAscending("{}", "{\"\":9}", "{\"a\":9,\"\":9}", "{\"a\":8}", "{\"b\":8,\"a\":7}", "{\"c\":0,\"b\":7,\"a\":7}",
                "{\"c\":6,\"a\":6}", "{\"aa\":5}", "{\"b\":4}", "{\"c\":2,\"b\":3}", "{\"c\":1}");
    }

    private static void orderOfValuesByNames() {
        Bench.dueAscending("{\"a\":null}", "{\"a\":false}", "{\"a\":0}", "{\"a\":\"\"}", "{\"a\":[]}", "{\"a\":{}}", "{\"a\":{\"x\":0}}");
        Bench.dueAscending("{\"b\":9,\"a\":1}", "{\"a\":2,\"b\":0}", "{\"b\":1,\"a\":2}", "{\"a\":3,\"b\":0}");
        Bench.dueAscending("{\"o\":{\"y\":9,\"x\":1}}", "{\"o\":{\"x\":2,\"y\":0}}", "{\"o\":{\"y\":1,\"x\":2}}");
    }

    private static void registers() {
        Bench x = new Bench();
        for (int r = 0; r < 8; r++) {
            Bench.due("register " + r + " at first", x.shown(r), "null");
        }
        for (int r = 0; r < 8; r++) {
            x.with(r, "[" + r + "]");
            for (int s = 0; s < 8; s++) {
                Bench.due("register " + s + " when " + r + " has been read", x.shown(s), s <= r ? "[" + s + "]" : "null");
            }
        }
    }

    /** What was long, deep or thrown before must not show in what comes later. */
    private static void nothingElseIsKept() {
        Bench x = new Bench().with(0, Bench.array("1", 2047)).with(1, Bench.letters(4094)).with(2, "\"\"");
        for (int f = 0; f < 14; f++) {
            attempt(x, f, 0);
            attempt(x, f, 1);
        }
        x.outcome(() -> x.bench.print(0));
        x.tape("[1,{\"a\":[").outcome(() -> x.bench.read(0));
        x.with(0, "[2,1,[3,0]]").with(1, "[1,0,1]").with(2, "\"[0]\"");
        dueThen(x, "sort of one", () -> x.bench.one(3, 8, 0), "[1,2,[3,0]]");
        dueThen(x, "reverse", () -> x.bench.one(3, 9, 0), "[[3,0],1,2]");
        dueThen(x, "keys", () -> x.bench.one(3, 2, 0), "[0,1,2]");
        dueThen(x, "tojson", () -> x.bench.one(3, 6, 0), "\"[2,1,[3,0]]\"");
        dueThen(x, "fromjson", () -> x.bench.one(3, 7, 2), "[0]");
        dueThen(x, "sort by keys", () -> x.bench.sort(3, 0, 0, 1), "[1,2,[3,0]]");
        dueThen(x, "groups", () -> x.bench.sort(3, 1, 0, 1), "[[1],[2,[3,0]]]");
        dueThen(x, "join", () -> x.bench.two(3, 2, 1, 2), "\"1[0]0[0]1\"");
        dueThen(x, "+", () -> x.bench.binary(3, 0, 0, 1), "[2,1,[3,0],1,0,1]");
        Bench.due("tape", x.bench.count(0), 0);
    }

    private static void attempt(Bench x, int f, int a) {
        x.outcome(() -> {
            x.bench.one(3, f, a);
            return null;
        });
    }

    private static void dueThen(Bench x, String what, Runnable call, String want) {
        call.run();
        Bench.due(what + " after long and broken values", x.shown(3), want);
    }
}
