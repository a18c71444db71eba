/** The boundary cases of promise 9, a test for each sentence. */
public final class BoundaryOneTest {
    private static final String GREATEST = "9007199254740991";
    private static final String[] VALUES = {"null", "false", "true", "0", "-7", "\"\"", "\"a\"", "[]", "[1]", "{}", "{\"a\":1}"};

    public static void main(String[] args) {
        Bench.sentence("0 not", BoundaryOneTest::not);
        Bench.sentence("1 length: null 0", () -> Bench.dueOne(1, "null", "0"));
        Bench.sentence("1 length: NUMBERS their size", BoundaryOneTest::size);
        Bench.sentence("1 length: characters, elements, names", BoundaryOneTest::length);
        Bench.sentence("1 length: else \"type\"", () -> dueTypeBut(1, "nN\"[{"));
        Bench.sentence("2 keys: sorted", BoundaryOneTest::keys);
        Bench.sentence("2 keys, 3: of ARRAYS 0, 1, ..", BoundaryOneTest::keysOfArrays);
        Bench.sentence("2 keys: else \"type\"", () -> dueTypeBut(2, "[{"));
        Bench.sentence("3 the same as they came", BoundaryOneTest::keysAsTheyCame);
        Bench.sentence("3 the same: else \"type\"", () -> dueTypeBut(3, "[{"));
        Bench.sentence("4 tostring: STRINGS as they are", BoundaryOneTest::stringsAsTheyAre);
        Bench.sentence("4 tostring: others PRINTED", () -> duePrinted(4, "nftN[{"));
        Bench.sentence("5 tonumber: NUMBERS", BoundaryOneTest::numbers);
        Bench.sentence("5 tonumber: STRINGS that are NUMBERS of JSON", BoundaryOneTest::stringsThatAreNumbers);
        Bench.sentence("5 tonumber: else \"number\"", BoundaryOneTest::stringsThatAreNone);
        Bench.sentence("5 tonumber: else \"type\"", () -> dueTypeBut(5, "N\""));
        Bench.sentence("6 tojson (PRINTED)", BoundaryOneTest::toJson);
        Bench.sentence("7 fromjson (a STRING)", BoundaryOneTest::fromJson);
        Bench.sentence("7 fromjson: else \"type\"", () -> dueTypeBut(7, "\""));
        Bench.sentence("7 fromjson: \"json\"", BoundaryOneTest::brokenJson);
        Bench.sentence("8 sort (an ARRAY, by ORDER, stable)", BoundaryOneTest::sort);
        Bench.sentence("8 sort of what is no ARRAY", () -> dueTypeBut(8, "["));
        Bench.sentence("9 reverse (ARRAYS, STRINGS)", BoundaryOneTest::reverse);
        Bench.sentence("9 reverse: null: []", () -> Bench.dueOne(9, "null", "[]"));
        Bench.sentence("9 reverse of others", () -> dueTypeBut(9, "n\"["));
        Bench.sentence("10 explode (a STRING: its codes)", BoundaryOneTest::explode);
        Bench.sentence("10 explode of what is no STRING", () -> dueTypeBut(10, "\""));
        Bench.sentence("11 implode (an ARRAY of NUMBERS: 0 .. 127)", BoundaryOneTest::implode);
        Bench.sentence("11 implode: else \"type\"", BoundaryOneTest::implodeOfOthers);
        Bench.sentence("11 implode: \"type\", before all else", BoundaryOneTest::implodeTypeFirst);
        Bench.sentence("11 implode: else \"range\"", BoundaryOneTest::implodeOutOfRange);
        Bench.sentence("12, 13 with small, capital letters", BoundaryOneTest::letters);
        Bench.sentence("12, 13 of what is no STRING", BoundaryOneTest::lettersOfOthers);
        Bench.sentence("f 0 .. 13", BoundaryOneTest::functions);
        Bench.finish();
    }

    private static char kind(String value) {
        char first = value.charAt(0);
        return first == '-' || first == '0' ? 'N' : first;
    }

    /** That values of all kinds but these are refused, told by their first sign, N for NUMBERS. */
    private static void dueTypeBut(int f, String kinds) {
        for (String a : VALUES) {
            if (kinds.indexOf(kind(a)) < 0) {
                Bench.dueOne(f, a, Bench.TYPE);
            } else {
                Bench.due("one f " + f + " of " + a + " is of a wrong type", Bench.one(f, a).equals(Bench.TYPE), false);
            }
        }
    }

    private static void duePrinted(int f, String kinds) {
        for (String a : VALUES) {
            if (kinds.indexOf(kind(a)) >= 0) {
                Bench.dueOne(f, a, "\"" + a.replace("\\", "\\\\").replace("\"", "\\\"") + "\"");
            }
        }
    }

    private static void not() {
        for (String a : VALUES) {
            Bench.dueOne(0, a, a.equals("null") || a.equals("false") ? "true" : "false");
        }
    }

    private static void size() {
        Bench.dueOne(1, "0", "0");
        Bench.dueOne(1, "-1", "1");
        Bench.dueOne(1, "-" + GREATEST, GREATEST);
        Bench.dueOne(1, GREATEST, GREATEST);
    }

    private static void length() {
        Bench.dueOne(1, "\"\"", "0");
        Bench.dueOne(1, "\"\\u0000\\n\\\"\"", "3");
        Bench.dueOne(1, Bench.letters(4094), "4094");
        Bench.dueOne(1, "[]", "0");
        Bench.dueOne(1, "[[1,2,3]]", "1");
        Bench.dueOne(1, Bench.array("0", 2047), "2047");
        Bench.dueOne(1, "{}", "0");
        Bench.dueOne(1, "{\"\":{\"a\":1,\"b\":2}}", "1");
    }

    private static void keys() {
        Bench.dueOne(2, "{}", "[]");
        Bench.dueOne(2, "{\"\":1}", "[\"\"]");
        Bench.dueOne(2, "{\"b\":{\"z\":0},\"a\":1,\"B\":2,\"\":3,\"aa\":4,\"10\":5,\"9\":6}", "[\"\",\"10\",\"9\",\"B\",\"a\",\"aa\",\"b\"]");
    }

    private static void keysOfArrays() {
        for (int f = 2; f <= 3; f++) {
            Bench.dueOne(f, "[]", "[]");
            Bench.dueOne(f, "[null]", "[0]");
            Bench.dueOne(f, "[[5,6],{\"a\":7},\"xy\"]", "[0,1,2]");
        }
    }

    private static void keysAsTheyCame() {
        Bench.dueOne(3, "{}", "[]");
        Bench.dueOne(3, "{\"b\":{\"z\":0},\"a\":1,\"B\":2,\"\":3}", "[\"b\",\"a\",\"B\",\"\"]");
    }

    private static void stringsAsTheyAre() {
        for (String text : new String[] {"\"\"", "\"a\"", "\"\\\"\\\\\\n\\u0000\"", "\"1\"", Bench.letters(4094)}) {
            Bench.dueOne(4, text, text);
        }
    }

    private static void numbers() {
        for (String number : new String[] {"0", "1", "-1", GREATEST, "-" + GREATEST}) {
            Bench.dueOne(5, number, number);
        }
    }

    private static void stringsThatAreNumbers() {
        for (String number : new String[] {"0", "1", "-1", "10", GREATEST, "-" + GREATEST}) {
            Bench.dueOne(5, "\"" + number + "\"", number);
        }
        Bench.dueOne(5, "\"-0\"", "0");
    }

    private static void stringsThatAreNone() {
        for (String text : new String[] {"", "-", "+1", "01", "00", "-01", "--1", "1-", " 1", "1 ", "1\\n", "1.0", "1e1", "0x1", "a", "null",
            "[1]", "\\\"1\\\"", "1\\u0000", "9007199254740992", "-9007199254740992", "18446744073709551617"}) {
            Bench.dueOne(5, "\"" + text + "\"", Bench.NO_NUMBER);
        }
    }

    private static void toJson() {
        duePrinted(6, "nftN[{\"");
        Bench.dueOne(6, "\"\\\"\\n\\u007f/\"", "\"\\\"\\\\\\\"\\\\n\\\\u007f/\\\"\"");
    }

    private static void fromJson() {
        for (String value : VALUES) {
            Bench.dueOne(7, "\"" + value.replace("\"", "\\\"") + "\"", value);
        }
        Bench.dueOne(7, "\" \\t\\n\\r1 \"", "1");
        Bench.dueOne(7, "\"" + " ".repeat(4093) + "1\"", "1");
        Bench.dueOne(7, "\"[" + "0,".repeat(2045) + "0]\"", Bench.array("0", 2046));
    }

    private static void brokenJson() {
        for (String text : new String[] {"", " ", "nul", "01", "1 2", "[1,]", "[", "{\\\"a\\\":1,\\\"a\\\":2}", "\\\"", "\\\"\\n\\\"",
            "\\\"\\u007f\\\"", "\\\"\\\\u0080\\\"", "9007199254740992", "\\u0000"}) {
            Bench.dueOne(7, "\"" + text + "\"", Bench.NO_JSON);
        }
    }

    private static void sort() {
        Bench.dueOne(8, "[]", "[]");
        Bench.dueOne(8, "[7]", "[7]");
        Bench.dueOne(8, "[2,1]", "[1,2]");
        Bench.dueOne(8, "[{},[],\"\",0,true,false,null]", "[null,false,true,0,\"\",[],{}]");
        Bench.dueOne(8, "[{\"b\":1,\"a\":1},{\"a\":1,\"b\":1},{\"a\":0}]", "[{\"a\":0},{\"b\":1,\"a\":1},{\"a\":1,\"b\":1}]");
        Bench.dueOne(8, "[{\"a\":1,\"b\":1},{\"b\":1,\"a\":1},{\"a\":0}]", "[{\"a\":0},{\"a\":1,\"b\":1},{\"b\":1,\"a\":1}]");
        Bench.dueOne(8, "[" + "1,".repeat(1023) + "0" + ",1".repeat(1023) + "]", "[0" + ",1".repeat(2046) + "]");
    }

    private static void reverse() {
        Bench.dueOne(9, "[]", "[]");
        Bench.dueOne(9, "[[1,2]]", "[[1,2]]");
        Bench.dueOne(9, "[1,[2,3],\"ab\"]", "[\"ab\",[2,3],1]");
        Bench.dueOne(9, "\"\"", "\"\"");
        Bench.dueOne(9, "\"a\"", "\"a\"");
        Bench.dueOne(9, "\"ab\\n\"", "\"\\nba\"");
        Bench.dueOne(9, "[" + "1,".repeat(2046) + "0]", "[0" + ",1".repeat(2046) + "]");
        Bench.dueOne(9, "\"b" + "a".repeat(4093) + "\"", "\"" + "a".repeat(4093) + "b\"");
    }

    private static void explode() {
        Bench.dueOne(10, "\"\"", "[]");
        Bench.dueOne(10, "\"\\u0000\\u007fA\"", "[0,127,65]");
    }

    private static void implode() {
        Bench.dueOne(11, "[]", "\"\"");
        Bench.dueOne(11, "[0]", "\"\\u0000\"");
        Bench.dueOne(11, "[127,0,65]", "\"\\u007f\\u0000A\"");
    }

    private static void implodeOfOthers() {
        dueTypeBut(11, "[");
        for (String element : new String[] {"null", "false", "true", "\"a\"", "\"\"", "[]", "[65]", "{}"}) {
            Bench.dueOne(11, "[" + element + "]", Bench.TYPE);
            Bench.dueOne(11, "[65,66," + element + "]", Bench.TYPE);
        }
    }

    private static void implodeTypeFirst() {
        Bench.dueOne(11, "[128,null]", Bench.TYPE);
        Bench.dueOne(11, "[-1,65,\"a\"]", Bench.TYPE);
        Bench.dueOne(11, "[[],128]", Bench.TYPE);
        Bench.dueOne(11, "[" + "0,".repeat(700) + "null]", Bench.TYPE);
    }

    private static void implodeOutOfRange() {
        for (String code : new String[] {"128", "-1", "255", "256", "4294967296", "-4294967231", GREATEST, "-" + GREATEST}) {
            Bench.dueOne(11, "[" + code + "]", Bench.RANGE);
            Bench.dueOne(11, "[65," + code + ",66]", Bench.RANGE);
        }
    }

    private static void letters() {
        for (int code = 0; code < 128; code++) {
            Bench.dueOne(12, "\"" + Bench.printed(code) + "\"", "\"" + Bench.printed(code >= 'A' && code <= 'Z' ? code + 32 : code) + "\"");
            Bench.dueOne(13, "\"" + Bench.printed(code) + "\"", "\"" + Bench.printed(code >= 'a' && code <= 'z' ? code - 32 : code) + "\"");
        }
        Bench.dueOne(12, "\"\"", "\"\"");
        Bench.dueOne(13, "\"\"", "\"\"");
    }

    private static void lettersOfOthers() {
        dueTypeBut(12, "\"");
        dueTypeBut(13, "\"");
    }

    private static void functions() {
        for (int f : new int[] {-1, 14, 15, Integer.MIN_VALUE, Integer.MAX_VALUE}) {
            Bench.dueOne(f, "\"a\"", Bench.ARGUMENT);
        }
        Bench.dueOne(0, "\"a\"", "false");
        Bench.dueOne(13, "\"a\"", "\"A\"");
    }
}
