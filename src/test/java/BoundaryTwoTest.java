/** The boundary cases of promise 10, a test for each sentence. */
public final class BoundaryTwoTest {
    private static final int HAS = 0;
    private static final int CONTAINS = 1;
    private static final int JOIN = 2;
    private static final int WITHOUT_BEGINNING = 3;
    private static final int WITHOUT_END = 4;
    private static final int BEGINS = 5;
    private static final int ENDS = 6;
    private static final int INDICES = 7;
    private static final int FLATTEN = 8;
    private static final int AT = 9;
    private static final String GREATEST = "9007199254740991";
    private static final String[] VALUES = {"null", "false", "true", "0", "7", "\"\"", "\"a\"", "[]", "[7]", "{}", "{\"a\":7}"};

    public static void main(String[] args) {
        Bench.sentence("0 has: OBJECT and STRING", BoundaryTwoTest::hasName);
        Bench.sentence("0 has: ARRAY and NUMBER", BoundaryTwoTest::hasElement);
        Bench.sentence("0 has: else \"type\"", () -> dueTypeBut(HAS, "{\" [N"));
        Bench.sentence("1 contains: STRINGS: as a part", BoundaryTwoTest::containsPart);
        Bench.sentence("1 contains: ARRAYS: each of x in some", BoundaryTwoTest::containsElements);
        Bench.sentence("1 contains: OBJECTS: each name of x is there and contains", BoundaryTwoTest::containsNames);
        Bench.sentence("1 contains: else the same, of the same kind", BoundaryTwoTest::containsTheSame);
        Bench.sentence("1 contains: false and true are of one", BoundaryTwoTest::falseAndTrue);
        Bench.sentence("1 contains: within them of others false", BoundaryTwoTest::othersWithin);
        Bench.sentence("1 contains: else \"type\"", () -> dueTypeBut(CONTAINS, "nn ff ft tf tt NN \"\" [[ {{"));
        Bench.sentence("2 join (an ARRAY, ..; x a STRING)", BoundaryTwoTest::join);
        Bench.sentence("2 join: null as \"\"", BoundaryTwoTest::joinNull);
        Bench.sentence("2 join: STRINGS, others tostring", BoundaryTwoTest::joinOthers);
        Bench.sentence("2 join: but ARRAYS and OBJECTS \"type\"", BoundaryTwoTest::joinLists);
        Bench.sentence("2 join of what is no ARRAY, or x no STRING", () -> dueTypeBut(JOIN, "[\""));
        Bench.sentence("3 without x at the beginning", BoundaryTwoTest::withoutBeginning);
        Bench.sentence("4 without x at the end", BoundaryTwoTest::withoutEnd);
        Bench.sentence("3, 4: if both are STRINGS and it is there, else a", BoundaryTwoTest::elseItself);
        Bench.sentence("5 whether it begins with x", BoundaryTwoTest::begins);
        Bench.sentence("6 whether it ends with x", BoundaryTwoTest::ends);
        Bench.sentence("5, 6: STRINGS: else \"type\"", BoundaryTwoTest::beginsAndEndsOfOthers);
        Bench.sentence("7 indices: of STRINGS where x begins, also within one another", BoundaryTwoTest::indicesOfStrings);
        Bench.sentence("7 indices: of STRINGS \"\" null", BoundaryTwoTest::indicesOfEmpty);
        Bench.sentence("7 indices: of ARRAYS where the ARRAY x begins", () -> indicesOfArrays(INDICES));
        Bench.sentence("7 indices: of ARRAYS [] null", () -> indicesOfNone(INDICES));
        Bench.sentence("7 indices: of ARRAYS where it is the same", BoundaryTwoTest::indicesOfTheSame);
        Bench.sentence("7 indices: null: null", BoundaryTwoTest::indicesOfNull);
        Bench.sentence("7 indices: else \"type\"", () -> dueTypeBut(INDICES, "nn nf nt nN n\" n[ n{ \"\" [n [f [t [N [\" [[ [{"));
        Bench.sentence("8 flatten (ARRAYS in the ARRAY a, NUMBER x deep)", BoundaryTwoTest::flatten);
        Bench.sentence("8 flatten: below 0 \"range\"", BoundaryTwoTest::flattenBelowZero);
        Bench.sentence("8 flatten: else \"type\"", () -> dueTypeBut(FLATTEN, "[N"));
        Bench.sentence("9 at: OBJECT and STRING: that or null", BoundaryTwoTest::atName);
        Bench.sentence("9 at: ARRAY and NUMBER: from the end if below 0, or null", BoundaryTwoTest::atNumber);
        Bench.sentence("9 at: null and null, NUMBER, STRING: null", BoundaryTwoTest::atOfNull);
        Bench.sentence("9 at: ARRAY and ARRAY as indices", BoundaryTwoTest::atArray);
        Bench.sentence("9 at: else \"type\"", () -> dueTypeBut(AT, "{\" [N nn nN n\" [["));
        Bench.sentence("f 0 .. 9", BoundaryTwoTest::functions);
        Bench.finish();
    }

    private static char kind(String value) {
        char first = value.charAt(0);
        return first == '0' || first == '7' ? 'N' : first;
    }

    /** That all pairs of kinds but these are refused, kinds told by their first sign, N for NUMBERS. */
    private static void dueTypeBut(int f, String pairs) {
        for (String a : VALUES) {
            for (String x : VALUES) {
                if (pairs.contains("" + kind(a) + kind(x))) {
                    Bench.due("two f " + f + " of " + a + " and " + x + " is of a wrong type", isRefused(f, a, x), false);
                } else {
                    Bench.dueTwo(f, a, x, Bench.TYPE);
                }
            }
        }
    }

    private static boolean isRefused(int f, String a, String x) {
        return Bench.two(f, a, x).startsWith("refused");
    }

    private static void hasName() {
        Bench.dueTwo(HAS, "{}", "\"\"", "false");
        Bench.dueTwo(HAS, "{\"\":null}", "\"\"", "true");
        Bench.dueTwo(HAS, "{\"a\":false,\"ab\":null}", "\"ab\"", "true");
        Bench.dueTwo(HAS, "{\"ab\":1}", "\"a\"", "false");
        Bench.dueTwo(HAS, "{\"a\":1}", "\"ab\"", "false");
        Bench.dueTwo(HAS, "{\"a\":1}", "\"a\\u0000\"", "false");
        Bench.dueTwo(HAS, "{\"a\":{\"b\":1}}", "\"b\"", "false");
        Bench.dueTwo(HAS, "{\"a\":\"b\"}", "\"b\"", "false");
    }

    private static void hasElement() {
        Bench.dueTwo(HAS, "[]", "0", "false");
        Bench.dueTwo(HAS, "[null,null]", "0", "true");
        Bench.dueTwo(HAS, "[null,null]", "1", "true");
        Bench.dueTwo(HAS, "[null,null]", "2", "false");
        Bench.dueTwo(HAS, "[null,null]", "-1", "false");
        Bench.dueTwo(HAS, "[5]", "5", "false");
        Bench.dueTwo(HAS, "[5]", "4294967296", "false");
        Bench.dueTwo(HAS, "[5]", "-4294967296", "false");
        Bench.dueTwo(HAS, "[5]", GREATEST, "false");
        Bench.dueTwo(HAS, Bench.array("0", 2047), "2046", "true");
        Bench.dueTwo(HAS, Bench.array("0", 2047), "2047", "false");
    }

    private static void containsPart() {
        Bench.dueTwo(CONTAINS, "\"\"", "\"\"", "true");
        Bench.dueTwo(CONTAINS, "\"a\"", "\"\"", "true");
        Bench.dueTwo(CONTAINS, "\"\"", "\"a\"", "false");
        Bench.dueTwo(CONTAINS, "\"abc\"", "\"a\"", "true");
        Bench.dueTwo(CONTAINS, "\"abc\"", "\"bc\"", "true");
        Bench.dueTwo(CONTAINS, "\"abc\"", "\"abc\"", "true");
        Bench.dueTwo(CONTAINS, "\"abc\"", "\"abcd\"", "false");
        Bench.dueTwo(CONTAINS, "\"abc\"", "\"ac\"", "false");
        Bench.dueTwo(CONTAINS, "\"aab\"", "\"ab\"", "true");
        Bench.dueTwo(CONTAINS, "\"a\\u0000b\"", "\"b\"", "true");
        Bench.dueTwo(CONTAINS, "\"a\"", "\"a\\u0000\"", "false");
        Bench.dueTwo(CONTAINS, "\"a\"", "\"\\u0000\"", "false");
    }

    private static void containsElements() {
        Bench.dueTwo(CONTAINS, "[]", "[]", "true");
        Bench.dueTwo(CONTAINS, "[1]", "[]", "true");
        Bench.dueTwo(CONTAINS, "[]", "[1]", "false");
        Bench.dueTwo(CONTAINS, "[2,1]", "[1,2,1]", "true");
        Bench.dueTwo(CONTAINS, "[2,1]", "[1,3]", "false");
        Bench.dueTwo(CONTAINS, "[\"abc\"]", "[\"a\",\"c\",\"\"]", "true");
        Bench.dueTwo(CONTAINS, "[[1,2],[3]]", "[[2,1],[]]", "true");
        Bench.dueTwo(CONTAINS, "[[1],[2]]", "[[1,2]]", "false");
    }

    private static void containsNames() {
        Bench.dueTwo(CONTAINS, "{}", "{}", "true");
        Bench.dueTwo(CONTAINS, "{\"a\":1}", "{}", "true");
        Bench.dueTwo(CONTAINS, "{}", "{\"a\":null}", "false");
        Bench.dueTwo(CONTAINS, "{\"a\":null}", "{\"b\":null}", "false");
        Bench.dueTwo(CONTAINS, "{\"b\":2,\"a\":1}", "{\"a\":1,\"b\":2}", "true");
        Bench.dueTwo(CONTAINS, "{\"b\":2,\"a\":1}", "{\"a\":1,\"b\":3}", "false");
        Bench.dueTwo(CONTAINS, "{\"abc\":1}", "{\"a\":1}", "false");
        Bench.dueTwo(CONTAINS, "{\"a\":{\"b\":[\"xyz\"]}}", "{\"a\":{\"b\":[\"y\"]}}", "true");
        Bench.dueTwo(CONTAINS, "{\"a\":{\"b\":[\"xyz\"]}}", "{\"a\":{\"b\":[\"yx\"]}}", "false");
    }

    private static void containsTheSame() {
        Bench.dueTwo(CONTAINS, "null", "null", "true");
        Bench.dueTwo(CONTAINS, "0", "0", "true");
        Bench.dueTwo(CONTAINS, "12", "1", "false");
        Bench.dueTwo(CONTAINS, GREATEST, GREATEST, "true");
        Bench.dueTwo(CONTAINS, "-1", "1", "false");
        Bench.dueTwo(CONTAINS, "[null,12]", "[12,null]", "true");
        Bench.dueTwo(CONTAINS, "[12]", "[1]", "false");
    }

    private static void falseAndTrue() {
        Bench.dueTwo(CONTAINS, "false", "false", "true");
        Bench.dueTwo(CONTAINS, "true", "true", "true");
        Bench.dueTwo(CONTAINS, "false", "true", "false");
        Bench.dueTwo(CONTAINS, "true", "false", "false");
        Bench.dueTwo(CONTAINS, "[true]", "[false]", "false");
    }

    private static void othersWithin() {
        for (String a : VALUES) {
            for (String x : VALUES) {
                if (kind(a) != kind(x)) {
                    Bench.dueTwo(CONTAINS, "[" + a + "]", "[" + x + "]", "false");
                    Bench.dueTwo(CONTAINS, "{\"k\":" + a + "}", "{\"k\":" + x + "}", "false");
                }
            }
        }
        Bench.dueTwo(CONTAINS, "[1,\"1\"]", "[\"1\"]", "true");
    }

    private static void join() {
        Bench.dueTwo(JOIN, "[]", "\"-\"", "\"\"");
        Bench.dueTwo(JOIN, "[\"a\"]", "\"-\"", "\"a\"");
        Bench.dueTwo(JOIN, "[\"\"]", "\"-\"", "\"\"");
        Bench.dueTwo(JOIN, "[\"\",\"\"]", "\"-\"", "\"-\"");
        Bench.dueTwo(JOIN, "[\"a\",\"b\"]", "\"\"", "\"ab\"");
        Bench.dueTwo(JOIN, "[\"a\",\"b\",\"c\"]", "\", \"", "\"a, b, c\"");
        Bench.dueTwo(JOIN, "[]", "null", Bench.TYPE);
        Bench.dueTwo(JOIN, "[\"a\"]", "0", Bench.TYPE);
    }

    private static void joinNull() {
        Bench.dueTwo(JOIN, "[null]", "\"-\"", "\"\"");
        Bench.dueTwo(JOIN, "[null,null]", "\"-\"", "\"-\"");
        Bench.dueTwo(JOIN, "[null,\"a\",null]", "\"-\"", "\"-a-\"");
    }

    private static void joinOthers() {
        Bench.dueTwo(JOIN, "[false,true,0,-7," + GREATEST + "]", "\" \"", "\"false true 0 -7 " + GREATEST + "\"");
        Bench.dueTwo(JOIN, "[\"\\\"\\n\",1]", "\"\\\\\"", "\"\\\"\\n\\\\1\"");
    }

    private static void joinLists() {
        for (String list : new String[] {"[]", "[1]", "{}", "{\"a\":1}"}) {
            Bench.dueTwo(JOIN, "[" + list + "]", "\"-\"", Bench.TYPE);
            Bench.dueTwo(JOIN, "[\"a\",1," + list + "]", "\"-\"", Bench.TYPE);
            Bench.dueTwo(JOIN, "[" + list + ",null]", "\"-\"", Bench.TYPE);
        }
    }

    private static void withoutBeginning() {
        Bench.dueTwo(WITHOUT_BEGINNING, "\"abab\"", "\"ab\"", "\"ab\"");
        Bench.dueTwo(WITHOUT_BEGINNING, "\"ab\"", "\"ab\"", "\"\"");
        Bench.dueTwo(WITHOUT_BEGINNING, "\"abc\"", "\"\"", "\"abc\"");
        Bench.dueTwo(WITHOUT_BEGINNING, "\"\"", "\"\"", "\"\"");
    }

    private static void withoutEnd() {
        Bench.dueTwo(WITHOUT_END, "\"abab\"", "\"ab\"", "\"ab\"");
        Bench.dueTwo(WITHOUT_END, "\"ab\"", "\"ab\"", "\"\"");
        Bench.dueTwo(WITHOUT_END, "\"abc\"", "\"\"", "\"abc\"");
        Bench.dueTwo(WITHOUT_END, "\"abc\"", "\"c\"", "\"ab\"");
        Bench.dueTwo(WITHOUT_END, "\"\"", "\"\"", "\"\"");
    }

    private static void elseItself() {
        for (int f = WITHOUT_BEGINNING; f <= WITHOUT_END; f++) {
            Bench.dueTwo(f, "\"ab\"", "\"xab\"", "\"ab\"");
            Bench.dueTwo(f, "\"ab\"", "\"abx\"", "\"ab\"");
            Bench.dueTwo(f, "\"\"", "\"a\"", "\"\"");
            Bench.dueTwo(f, "\"a\"", "\"a\\u0000\"", "\"a\"");
            Bench.dueTwo(f, "\"a\"", "\"\\u0000a\"", "\"a\"");
            for (String a : VALUES) {
                for (String x : VALUES) {
                    if (kind(a) != '"' || kind(x) != '"') {
                        Bench.dueTwo(f, a, x, a);
                    }
                }
            }
        }
        Bench.dueTwo(WITHOUT_BEGINNING, "\"ab\"", "\"b\"", "\"ab\"");
        Bench.dueTwo(WITHOUT_END, "\"ab\"", "\"a\"", "\"ab\"");
    }

    private static void begins() {
        Bench.dueTwo(BEGINS, "\"\"", "\"\"", "true");
        Bench.dueTwo(BEGINS, "\"ab\"", "\"\"", "true");
        Bench.dueTwo(BEGINS, "\"ab\"", "\"a\"", "true");
        Bench.dueTwo(BEGINS, "\"ab\"", "\"ab\"", "true");
        Bench.dueTwo(BEGINS, "\"ab\"", "\"abc\"", "false");
        Bench.dueTwo(BEGINS, "\"ab\"", "\"b\"", "false");
        Bench.dueTwo(BEGINS, "\"\"", "\"a\"", "false");
        Bench.dueTwo(BEGINS, "\"a\"", "\"a\\u0000\"", "false");
        Bench.dueTwo(BEGINS, "\"\"", "\"\\u0000\"", "false");
    }

    private static void ends() {
        Bench.dueTwo(ENDS, "\"\"", "\"\"", "true");
        Bench.dueTwo(ENDS, "\"ab\"", "\"\"", "true");
        Bench.dueTwo(ENDS, "\"ab\"", "\"b\"", "true");
        Bench.dueTwo(ENDS, "\"ab\"", "\"ab\"", "true");
        Bench.dueTwo(ENDS, "\"ab\"", "\"cab\"", "false");
        Bench.dueTwo(ENDS, "\"ab\"", "\"a\"", "false");
        Bench.dueTwo(ENDS, "\"\"", "\"a\"", "false");
        Bench.dueTwo(ENDS, "\"a\"", "\"\\u0000a\"", "false");
        Bench.dueTwo(ENDS, "\"\"", "\"\\u0000\"", "false");
    }

    private static void beginsAndEndsOfOthers() {
        dueTypeBut(BEGINS, "\"\"");
        dueTypeBut(ENDS, "\"\"");
    }

    private static void indicesOfStrings() {
        Bench.dueTwo(INDICES, "\"abab\"", "\"ab\"", "[0,2]");
        Bench.dueTwo(INDICES, "\"aaa\"", "\"aa\"", "[0,1]");
        Bench.dueTwo(INDICES, "\"ababa\"", "\"aba\"", "[0,2]");
        Bench.dueTwo(INDICES, "\"a\"", "\"a\"", "[0]");
        Bench.dueTwo(INDICES, "\"ab\"", "\"b\"", "[1]");
        Bench.dueTwo(INDICES, "\"ab\"", "\"c\"", "[]");
        Bench.dueTwo(INDICES, "\"ab\"", "\"abc\"", "[]");
        Bench.dueTwo(INDICES, "\"\"", "\"a\"", "[]");
        Bench.dueTwo(INDICES, "\"a\"", "\"a\\u0000\"", "[]");
        Bench.dueTwo(INDICES, "\"\\u0000\\u0000\"", "\"\\u0000\"", "[0,1]");
    }

    private static void indicesOfEmpty() {
        Bench.dueTwo(INDICES, "\"\"", "\"\"", "null");
        Bench.dueTwo(INDICES, "\"a\"", "\"\"", "null");
    }

    private static void indicesOfArrays(int f) {
        Bench.dueTwo(f, "[1,2,1,2]", "[1,2]", "[0,2]");
        Bench.dueTwo(f, "[1,1,1]", "[1,1]", "[0,1]");
        Bench.dueTwo(f, "[1]", "[1]", "[0]");
        Bench.dueTwo(f, "[1,2]", "[2]", "[1]");
        Bench.dueTwo(f, "[1,2]", "[2,1]", "[]");
        Bench.dueTwo(f, "[1,2]", "[1,2,3]", "[]");
        Bench.dueTwo(f, "[]", "[1]", "[]");
        Bench.dueTwo(f, "[[1],1]", "[[1]]", "[0]");
        Bench.dueTwo(f, "[0,{\"a\":1,\"b\":2}]", "[{\"b\":2,\"a\":1}]", "[1]");
        Bench.dueTwo(f, "[[]]", "[[]]", "[0]");
    }

    private static void indicesOfNone(int f) {
        Bench.dueTwo(f, "[]", "[]", "null");
        Bench.dueTwo(f, "[1]", "[]", "null");
        Bench.dueTwo(f, "[[]]", "[]", "null");
    }

    private static void indicesOfTheSame() {
        for (String x : new String[] {"null", "false", "true", "0", GREATEST, "\"\"", "\"a\"", "{}", "{\"a\":7}"}) {
            Bench.dueTwo(INDICES, "[" + x + ",[" + x + "],1," + x + "]", x, "[0,3]");
            Bench.dueTwo(INDICES, "[]", x, "[]");
            Bench.dueTwo(INDICES, "[1,[]]", x, "[]");
        }
        Bench.dueTwo(INDICES, "[{\"a\":1,\"b\":2},{\"a\":1}]", "{\"b\":2,\"a\":1}", "[0]");
        Bench.dueTwo(INDICES, "[\"ab\"]", "\"a\"", "[]");
    }

    private static void indicesOfNull() {
        for (String x : VALUES) {
            Bench.dueTwo(INDICES, "null", x, "null");
        }
    }

    private static void flatten() {
        String nested = "[[],[[]],1,[2,[3,[4]]],{\"a\":[5]}]";
        Bench.dueTwo(FLATTEN, "[]", "0", "[]");
        Bench.dueTwo(FLATTEN, "[]", "1", "[]");
        Bench.dueTwo(FLATTEN, "[[],[]]", "1", "[]");
        Bench.dueTwo(FLATTEN, nested, "0", nested);
        Bench.dueTwo(FLATTEN, nested, "1", "[[],1,2,[3,[4]],{\"a\":[5]}]");
        Bench.dueTwo(FLATTEN, nested, "2", "[1,2,3,[4],{\"a\":[5]}]");
        Bench.dueTwo(FLATTEN, nested, "3", "[1,2,3,4,{\"a\":[5]}]");
        Bench.dueTwo(FLATTEN, nested, "4", "[1,2,3,4,{\"a\":[5]}]");
        Bench.dueTwo(FLATTEN, nested, "4294967296", "[1,2,3,4,{\"a\":[5]}]");
        Bench.dueTwo(FLATTEN, nested, GREATEST, "[1,2,3,4,{\"a\":[5]}]");
        String deep = "[".repeat(40) + "7" + "]".repeat(40);
        Bench.dueTwo(FLATTEN, deep, "38", "[[7]]");
        Bench.dueTwo(FLATTEN, deep, "39", "[7]");
        Bench.dueTwo(FLATTEN, deep, "40", "[7]");
    }

    private static void flattenBelowZero() {
        for (String a : new String[] {"[]", "[1]", "[[1]]"}) {
            Bench.dueTwo(FLATTEN, a, "-1", Bench.RANGE);
            Bench.dueTwo(FLATTEN, a, "-" + GREATEST, Bench.RANGE);
        }
    }

    private static void atName() {
        Bench.dueTwo(AT, "{}", "\"\"", "null");
        Bench.dueTwo(AT, "{\"\":1}", "\"\"", "1");
        Bench.dueTwo(AT, "{\"a\":null,\"ab\":{\"a\":[2]}}", "\"ab\"", "{\"a\":[2]}");
        Bench.dueTwo(AT, "{\"ab\":1}", "\"a\"", "null");
        Bench.dueTwo(AT, "{\"a\":{\"b\":1}}", "\"b\"", "null");
    }

    private static void atNumber() {
        String a = "[[1],{\"a\":2},3]";
        String[] elements = {"[1]", "{\"a\":2}", "3"};
        for (int k = -3; k < 3; k++) {
            Bench.dueTwo(AT, a, String.valueOf(k), elements[Math.floorMod(k, 3)]);
        }
        for (String index : new String[] {"3", "-4", "4294967296", "4294967295", "-4294967296", "-4294967295", GREATEST, "-" + GREATEST}) {
            Bench.dueTwo(AT, a, index, "null");
            Bench.dueTwo(AT, "[]", index, "null");
        }
        Bench.dueTwo(AT, "[]", "0", "null");
        Bench.dueTwo(AT, "[]", "-1", "null");
        String most = "[" + "0,".repeat(2046) + "1]";
        Bench.dueTwo(AT, most, "2046", "1");
        Bench.dueTwo(AT, most, "-1", "1");
        Bench.dueTwo(AT, most, "-2047", "0");
        Bench.dueTwo(AT, most, "2047", "null");
        Bench.dueTwo(AT, most, "-2048", "null");
    }

    private static void atOfNull() {
        for (String x : new String[] {"null", "0", "-1", GREATEST, "\"\"", "\"a\""}) {
            Bench.dueTwo(AT, "null", x, "null");
        }
        for (String x : new String[] {"false", "true", "[]", "[1]", "{}"}) {
            Bench.dueTwo(AT, "null", x, Bench.TYPE);
        }
    }

    private static void atArray() {
        indicesOfArrays(AT);
        indicesOfNone(AT);
    }

    private static void functions() {
        for (int f : new int[] {-1, 10, 11, Integer.MIN_VALUE, Integer.MAX_VALUE}) {
            Bench.dueTwo(f, "[7]", "0", Bench.ARGUMENT);
        }
        Bench.dueTwo(0, "[7]", "0", "true");
        Bench.dueTwo(9, "[7]", "0", "7");
    }
}
