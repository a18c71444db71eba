/** Promise 10: two. */
public final class TwoTest {
    private static final int HAS = 0;
    private static final int CONTAINS = 1;
    private static final int JOIN = 2;
    private static final int WITHOUT_BEGINNING = 3;
    private static final int WITHOUT_END = 4;
    private static final int BEGINS = 5;
    private static final int ENDS = 6;
    private static final int INDICES = 7;
    private static final int FLATTEN = 8;
    private static final int AT = 9;
    private static final String[] ONE_OF_EACH_KIND = {"null", "false", "true", "0", "\"a\"", "[1]", "{\"a\":1}"};

    public static void main(String[] args) {
        has();
        contains();
        join();
        without();
        beginsAndEnds();
        indicesOfStrings();
        indicesOfArrays();
        flatten();
        at();
        kindsThatDoNotFit();
        outOfRange();
        Bench.finish();
    }

    private static void has() {
        Bench.dueTwo(HAS, "{\"a\":null,\"\":1}", "\"a\"", "true");
        Bench.dueTwo(HAS, "{\"a\":null,\"\":1}", "\"\"", "true");
        Bench.dueTwo(HAS, "{\"a\":null}", "\"b\"", "false");
        Bench.dueTwo(HAS, "{\"ab\":null}", "\"a\"", "false");
        Bench.dueTwo(HAS, "{}", "\"\"", "false");
        Bench.dueTwo(HAS, "[5,null]", "0", "true");
        Bench.dueTwo(HAS, "[5,null]", "1", "true");
        Bench.dueTwo(HAS, "[5,null]", "2", "false");
        Bench.dueTwo(HAS, "[5,null]", "-1", "false");
        Bench.dueTwo(HAS, "[]", "0", "false");
        Bench.dueTwo(HAS, "[5]", "4294967296", "false");
    }

    private static void contains() {
        Bench.dueTwo(CONTAINS, "\"foobar\"", "\"oba\"", "true");
        Bench.dueTwo(CONTAINS, "\"foobar\"", "\"\"", "true");
        Bench.dueTwo(CONTAINS, "\"\"", "\"\"", "true");
        Bench.dueTwo(CONTAINS, "\"foobar\"", "\"bar\"", "true");
        Bench.dueTwo(CONTAINS, "\"foobar\"", "\"barx\"", "false");
        Bench.dueTwo(CONTAINS, "\"foo\"", "\"foobar\"", "false");
        Bench.dueTwo(CONTAINS, "\"aab\"", "\"ab\"", "true");
        Bench.dueTwo(CONTAINS, "[\"foobar\",\"baz\"]", "[\"baz\",\"bar\"]", "true");
        Bench.dueTwo(CONTAINS, "[\"foobar\",\"baz\"]", "[\"bazz\"]", "false");
        Bench.dueTwo(CONTAINS, "[1,2]", "[2,2,1,1]", "true");
        Bench.dueTwo(CONTAINS, "[1,2]", "[]", "true");
        Bench.dueTwo(CONTAINS, "[]", "[]", "true");
        Bench.dueTwo(CONTAINS, "[]", "[null]", "false");
        Bench.dueTwo(CONTAINS, "[1,2]", "[\"1\"]", "false");
        Bench.dueTwo(CONTAINS, "[[1,2],[3]]", "[[2]]", "true");
        Bench.dueTwo(CONTAINS, "[[1,2],[3]]", "[[2,3]]", "false");
        Bench.dueTwo(CONTAINS, "[true]", "[false]", "false");
        Bench.dueTwo(CONTAINS, "[null]", "[null]", "true");
        Bench.dueTwo(CONTAINS, "{\"a\":1,\"b\":[1,{\"c\":\"xyz\",\"d\":4}]}", "{\"b\":[{\"c\":\"y\"}]}", "true");
        Bench.dueTwo(CONTAINS, "{\"a\":1,\"b\":2}", "{\"b\":2,\"a\":1}", "true");
        Bench.dueTwo(CONTAINS, "{\"a\":1}", "{}", "true");
        Bench.dueTwo(CONTAINS, "{\"a\":1}", "{\"b\":1}", "false");
        Bench.dueTwo(CONTAINS, "{\"a\":null}", "{\"b\":null}", "false");
        Bench.dueTwo(CONTAINS, "{\"a\":1}", "{\"a\":\"1\"}", "false");
        Bench.dueTwo(CONTAINS, "{\"a\":1}", "{\"a\":2}", "false");
        Bench.dueTwo(CONTAINS, "5", "5", "true");
        Bench.dueTwo(CONTAINS, "55", "5", "false");
        Bench.dueTwo(CONTAINS, "null", "null", "true");
        Bench.dueTwo(CONTAINS, "true", "true", "true");
        Bench.dueTwo(CONTAINS, "true", "false", "false");
        Bench.dueTwo(CONTAINS, "false", "true", "false");
    }

    private static void join() {
        Bench.dueTwo(JOIN, "[]", "\",\"", "\"\"");
        Bench.dueTwo(JOIN, "[\"a\"]", "\",\"", "\"a\"");
        Bench.dueTwo(JOIN, "[\"a\",null,1,-20,true,false,\"\",\"b\"]", "\"--\"", "\"a----1---20--true--false----b\"");
        Bench.dueTwo(JOIN, "[null]", "\",\"", "\"\"");
        Bench.dueTwo(JOIN, "[null,null]", "\",\"", "\",\"");
        Bench.dueTwo(JOIN, "[1,2]", "\"\"", "\"12\"");
        Bench.dueTwo(JOIN, "[1,[]]", "\",\"", Bench.TYPE);
        Bench.dueTwo(JOIN, "[{},1]", "\",\"", Bench.TYPE);
        Bench.dueTwo(JOIN, "[]", "null", Bench.TYPE);
        Bench.dueTwo(JOIN, "[1,2]", "0", Bench.TYPE);
        Bench.dueTwo(JOIN, Bench.array("0", 400), "\"" + "-".repeat(9) + "\"", "\"0" + ("-".repeat(9) + "0").repeat(399) + "\"");
        Bench.dueTwo(JOIN, Bench.array("0", 411), "\"" + "-".repeat(9) + "\"", Bench.LIMIT);
        Bench.dueTwo(JOIN, "[" + "0,".repeat(500) + "[]]", "\"" + "-".repeat(9) + "\"", Bench.TYPE);
    }

    private static void without() {
        Bench.dueTwo(WITHOUT_BEGINNING, "\"abcab\"", "\"ab\"", "\"cab\"");
        Bench.dueTwo(WITHOUT_BEGINNING, "\"abab\"", "\"abab\"", "\"\"");
        Bench.dueTwo(WITHOUT_BEGINNING, "\"ab\"", "\"abc\"", "\"ab\"");
        Bench.dueTwo(WITHOUT_BEGINNING, "\"ab\"", "\"b\"", "\"ab\"");
        Bench.dueTwo(WITHOUT_END, "\"abcab\"", "\"ab\"", "\"abc\"");
        Bench.dueTwo(WITHOUT_END, "\"abab\"", "\"abab\"", "\"\"");
        Bench.dueTwo(WITHOUT_END, "\"ab\"", "\"cab\"", "\"ab\"");
        Bench.dueTwo(WITHOUT_END, "\"ab\"", "\"a\"", "\"ab\"");
        for (int f = WITHOUT_BEGINNING; f <= WITHOUT_END; f++) {
            Bench.dueTwo(f, "\"ab\"", "\"\"", "\"ab\"");
            Bench.dueTwo(f, "\"\"", "\"\"", "\"\"");
            for (String any : ONE_OF_EACH_KIND) {
                Bench.dueTwo(f, any, "1", any);
                Bench.dueTwo(f, any, "[\"a\"]", any);
            }
        }
    }

    private static void beginsAndEnds() {
        Bench.dueTwo(BEGINS, "\"abc\"", "\"ab\"", "true");
        Bench.dueTwo(BEGINS, "\"abc\"", "\"bc\"", "false");
        Bench.dueTwo(ENDS, "\"abc\"", "\"bc\"", "true");
        Bench.dueTwo(ENDS, "\"abc\"", "\"ab\"", "false");
        for (int f = BEGINS; f <= ENDS; f++) {
            Bench.dueTwo(f, "\"abc\"", "\"abc\"", "true");
            Bench.dueTwo(f, "\"abc\"", "\"\"", "true");
            Bench.dueTwo(f, "\"\"", "\"\"", "true");
            Bench.dueTwo(f, "\"abc\"", "\"abcd\"", "false");
            Bench.dueTwo(f, "\"abc\"", "\"xabc\"", "false");
        }
    }

    private static void indicesOfStrings() {
        Bench.dueTwo(INDICES, "\"abcab\"", "\"ab\"", "[0,3]");
        Bench.dueTwo(INDICES, "\"aaaa\"", "\"aa\"", "[0,1,2]");
        Bench.dueTwo(INDICES, "\"abc\"", "\"x\"", "[]");
        Bench.dueTwo(INDICES, "\"abc\"", "\"abcd\"", "[]");
        Bench.dueTwo(INDICES, "\"\"", "\"a\"", "[]");
        Bench.dueTwo(INDICES, "\"abc\"", "\"\"", "null");
        Bench.dueTwo(INDICES, "\"\"", "\"\"", "null");
        Bench.dueTwo(INDICES, Bench.letters(4094), "\"a\"", Bench.LIMIT);
        for (String any : ONE_OF_EACH_KIND) {
            Bench.dueTwo(INDICES, "null", any, "null");
        }
    }

    private static void indicesOfArrays() {
        for (int f : new int[] {INDICES, AT}) {
            Bench.dueTwo(f, "[1,2,1,2,1]", "[1,2]", "[0,2]");
            Bench.dueTwo(f, "[1,1,1]", "[1,1]", "[0,1]");
            Bench.dueTwo(f, "[1,2]", "[1,2,3]", "[]");
            Bench.dueTwo(f, "[1,2]", "[]", "null");
            Bench.dueTwo(f, "[]", "[]", "null");
            Bench.dueTwo(f, "[]", "[1]", "[]");
            Bench.dueTwo(f, "[[1],1,[[1]]]", "[[1]]", "[0]");
            Bench.dueTwo(f, "[0,{\"a\":1,\"b\":2},[3],4]", "[{\"b\":2,\"a\":1},[3]]", "[1]");
        }
        Bench.dueTwo(INDICES, "[1,2,1]", "1", "[0,2]");
        Bench.dueTwo(INDICES, "[null,1,null]", "null", "[0,2]");
        Bench.dueTwo(INDICES, "[\"ab\",\"a\",\"\"]", "\"a\"", "[1]");
        Bench.dueTwo(INDICES, "[\"ab\",\"a\",\"\"]", "\"\"", "[2]");
        Bench.dueTwo(INDICES, "[{\"a\":1,\"b\":2},{\"a\":1}]", "{\"b\":2,\"a\":1}", "[0]");
        Bench.dueTwo(INDICES, "[true,false]", "false", "[1]");
        Bench.dueTwo(INDICES, "[]", "1", "[]");
        Bench.dueTwo(INDICES, Bench.array("0", 2047), "0", Bench.LIMIT);
    }

    private static void flatten() {
        String nested = "[1,[2,[3,[4,[]]]],{\"a\":[5,[6]]},\"x\",[]]";
        Bench.dueTwo(FLATTEN, nested, "0", nested);
        Bench.dueTwo(FLATTEN, nested, "1", "[1,2,[3,[4,[]]],{\"a\":[5,[6]]},\"x\"]");
        Bench.dueTwo(FLATTEN, nested, "2", "[1,2,3,[4,[]],{\"a\":[5,[6]]},\"x\"]");
        Bench.dueTwo(FLATTEN, nested, "4", "[1,2,3,4,{\"a\":[5,[6]]},\"x\"]");
        Bench.dueTwo(FLATTEN, nested, "9007199254740991", "[1,2,3,4,{\"a\":[5,[6]]},\"x\"]");
        Bench.dueTwo(FLATTEN, "[]", "1", "[]");
        Bench.dueTwo(FLATTEN, "[]", "-1", Bench.RANGE);
        Bench.dueTwo(FLATTEN, nested, "-9007199254740991", Bench.RANGE);
        Bench.dueTwo(FLATTEN, "\"a\"", "-1", Bench.TYPE);
        String deep = "[".repeat(40) + "7" + "]".repeat(40);
        Bench.dueTwo(FLATTEN, deep, "38", "[[7]]");
        Bench.dueTwo(FLATTEN, deep, "39", "[7]");
    }

    private static void at() {
        Bench.dueTwo(AT, "{\"a\":[1,2],\"b\":2}", "\"a\"", "[1,2]");
        Bench.dueTwo(AT, "{\"a\":[1,2],\"b\":2}", "\"c\"", "null");
        Bench.dueTwo(AT, "{\"a\":1,\"\":{\"x\":0}}", "\"\"", "{\"x\":0}");
        Bench.dueTwo(AT, "[[1],{\"a\":2},3]", "0", "[1]");
        Bench.dueTwo(AT, "[[1],{\"a\":2},3]", "2", "3");
        Bench.dueTwo(AT, "[[1],{\"a\":2},3]", "3", "null");
        Bench.dueTwo(AT, "[[1],{\"a\":2},3]", "-1", "3");
        Bench.dueTwo(AT, "[[1],{\"a\":2},3]", "-2", "{\"a\":2}");
        Bench.dueTwo(AT, "[[1],{\"a\":2},3]", "-3", "[1]");
        Bench.dueTwo(AT, "[[1],{\"a\":2},3]", "-4", "null");
        Bench.dueTwo(AT, "[1]", "9007199254740991", "null");
        Bench.dueTwo(AT, "[1]", "-9007199254740991", "null");
        Bench.dueTwo(AT, "[1]", "4294967296", "null");
        Bench.dueTwo(AT, "[]", "0", "null");
        Bench.dueTwo(AT, "null", "null", "null");
        Bench.dueTwo(AT, "null", "5", "null");
        Bench.dueTwo(AT, "null", "\"a\"", "null");
    }

    /** By the kinds of the two values in their ORDER: which functions do not refuse them. */
    private static boolean fits(int f, int a, int x) {
        switch (f) {
            case HAS:
                return a == 6 && x == 4 || a == 5 && x == 3;
            case CONTAINS:
                return a == x || a + x == 3 && a * x == 2;
            case JOIN:
                return a == 5 && x == 4;
            case BEGINS:
            case ENDS:
                return a == 4 && x == 4;
            case INDICES:
                return a == 0 || a == 5 || a == 4 && x == 4;
            case FLATTEN:
                return a == 5 && x == 3;
            case AT:
                return a == 6 && x == 4 || a == 5 && (x == 3 || x == 5) || a == 0 && (x == 0 || x == 3 || x == 4);
            default:
                return true;
        }
    }

    private static void kindsThatDoNotFit() {
        for (int f = HAS; f <= AT; f++) {
            for (int a = 0; a < 7; a++) {
                for (int x = 0; x < 7; x++) {
                    String got = Bench.two(f, ONE_OF_EACH_KIND[a], ONE_OF_EACH_KIND[x]);
                    Bench.due("two f " + f + " of " + ONE_OF_EACH_KIND[a] + " and " + ONE_OF_EACH_KIND[x] + " is of a wrong type",
                            got.equals(Bench.TYPE), !fits(f, a, x));
                }
            }
        }
    }

    private static void outOfRange() {
        int[][] calls = {{-1, 0, 0, 0}, {8, 0, 0, 0}, {0, -1, 0, 0}, {0, 10, 0, 0}, {0, 0, -1, 0}, {0, 0, 8, 0},
            {0, 0, 0, -1}, {0, 0, 0, 8}, {0, Integer.MIN_VALUE, 0, 0}};
        for (int[] call : calls) {
            Bench x = new Bench();
            Bench.due("two" + java.util.Arrays.toString(call), x.outcome(() -> {
                x.bench.two(call[0], call[1], call[2], call[3]);
                return null;
            }), Bench.ARGUMENT);
            Bench.due("reason after a number out of range", x.bench.count(3), 0);
        }
    }
}
