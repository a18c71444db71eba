/** The boundary cases of OPERATORS in the document's Terms, a test for each sentence. */
public final class BoundaryOperatorsTest {
    private static final int PLUS = 0;
    private static final int MINUS = 1;
    private static final int TIMES = 2;
    private static final int DIVIDE = 3;
    private static final int MODULO = 4;
    private static final String GREATEST = "9007199254740991";
    private static final String[] VALUES = {"null", "false", "true", "0", "-7", "\"\"", "\"s\"", "[]", "[1]", "{}", "{\"a\":1}"};

    public static void main(String[] args) {
        Bench.sentence("+ NUMBERS", BoundaryOperatorsTest::plusNumbers);
        Bench.sentence("+ STRINGS: one behind the other", BoundaryOperatorsTest::plusStrings);
        Bench.sentence("+ ARRAYS: one behind the other", BoundaryOperatorsTest::plusArrays);
        Bench.sentence("+ OBJECTS: both, those of the second count", BoundaryOperatorsTest::plusObjects);
        Bench.sentence("+ null and any: that", BoundaryOperatorsTest::plusNull);
        Bench.sentence("- NUMBERS", BoundaryOperatorsTest::minusNumbers);
        Bench.sentence("- ARRAYS without all that are the same as one of the second", BoundaryOperatorsTest::minusArrays);
        Bench.sentence("* NUMBERS", BoundaryOperatorsTest::timesNumbers);
        Bench.sentence("* STRING and NUMBER n (either first): n times", BoundaryOperatorsTest::timesStrings);
        Bench.sentence("* STRING and NUMBER n: null if n is below 1", BoundaryOperatorsTest::timesBelowOne);
        Bench.sentence("* OBJECTS: as +, but where both have OBJECTS these likewise", BoundaryOperatorsTest::timesObjects);
        Bench.sentence("/ NUMBERS, towards 0", BoundaryOperatorsTest::divideNumbers);
        Bench.sentence("/ NUMBERS (\"zero\")", BoundaryOperatorsTest::divideByZero);
        Bench.sentence("/ STRINGS: the pieces between", BoundaryOperatorsTest::pieces);
        Bench.sentence("/ STRINGS: all characters for \"\"", BoundaryOperatorsTest::allCharacters);
        Bench.sentence("/ STRINGS: none of \"\"", BoundaryOperatorsTest::noneOfEmpty);
        Bench.sentence("% NUMBERS, with the sign of the first", BoundaryOperatorsTest::modulo);
        Bench.sentence("% NUMBERS (\"zero\")", BoundaryOperatorsTest::moduloZero);
        Bench.sentence("Others \"type\"", BoundaryOperatorsTest::others);
        Bench.sentence("NUMBERS too great \"range\"", BoundaryOperatorsTest::tooGreat);
        Bench.finish();
    }

    private static void plusNumbers() {
        Bench.dueBinary(PLUS, "0", "0", "0");
        Bench.dueBinary(PLUS, "-1", "1", "0");
        Bench.dueBinary(PLUS, "9007199254740990", "1", GREATEST);
        Bench.dueBinary(PLUS, "-9007199254740990", "-1", "-" + GREATEST);
        Bench.dueBinary(PLUS, GREATEST, "-" + GREATEST, "0");
        Bench.dueBinary(PLUS, "2147483647", "1", "2147483648");
    }

    private static void plusStrings() {
        Bench.dueBinary(PLUS, "\"\"", "\"\"", "\"\"");
        Bench.dueBinary(PLUS, "\"\"", "\"b\"", "\"b\"");
        Bench.dueBinary(PLUS, "\"a\"", "\"\"", "\"a\"");
        Bench.dueBinary(PLUS, "\"ab\"", "\"\\u0000c\"", "\"ab\\u0000c\"");
        Bench.dueBinary(PLUS, "\"1\"", "\"2\"", "\"12\"");
    }

    private static void plusArrays() {
        Bench.dueBinary(PLUS, "[]", "[]", "[]");
        Bench.dueBinary(PLUS, "[]", "[null]", "[null]");
        Bench.dueBinary(PLUS, "[[]]", "[]", "[[]]");
        Bench.dueBinary(PLUS, "[2,1]", "[1,[2]]", "[2,1,1,[2]]");
    }

    private static void plusObjects() {
        Bench.dueBinary(PLUS, "{}", "{}", "{}");
        Bench.dueBinary(PLUS, "{}", "{\"\":1}", "{\"\":1}");
        Bench.dueBinary(PLUS, "{\"\":1}", "{}", "{\"\":1}");
        Bench.dueBinary(PLUS, "{\"a\":1,\"b\":2}", "{\"b\":null,\"c\":3}", "{\"a\":1,\"b\":null,\"c\":3}");
        Bench.dueBinary(PLUS, "{\"a\":{\"x\":1}}", "{\"a\":{}}", "{\"a\":{}}");
        Bench.dueBinary(PLUS, "{\"a\":{\"x\":1}}", "{\"a\":{\"y\":2}}", "{\"a\":{\"y\":2}}");
        Bench.dueBinary(PLUS, "{\"a\":1,\"A\":2,\"aa\":3}", "{\"A\":4}", "{\"a\":1,\"A\":4,\"aa\":3}");
    }

    private static void plusNull() {
        for (String any : VALUES) {
            Bench.dueBinary(PLUS, "null", any, any);
            Bench.dueBinary(PLUS, any, "null", any);
        }
    }

    private static void minusNumbers() {
        Bench.dueBinary(MINUS, "0", "0", "0");
        Bench.dueBinary(MINUS, "0", GREATEST, "-" + GREATEST);
        Bench.dueBinary(MINUS, "-9007199254740990", "1", "-" + GREATEST);
        Bench.dueBinary(MINUS, "9007199254740990", "-1", GREATEST);
        Bench.dueBinary(MINUS, "-" + GREATEST, "-" + GREATEST, "0");
    }

    private static void minusArrays() {
        Bench.dueBinary(MINUS, "[]", "[]", "[]");
        Bench.dueBinary(MINUS, "[]", "[1]", "[]");
        Bench.dueBinary(MINUS, "[1,2]", "[]", "[1,2]");
        Bench.dueBinary(MINUS, "[1,2,1,1]", "[1]", "[2]");
        Bench.dueBinary(MINUS, "[1,1]", "[1,1,1]", "[]");
        Bench.dueBinary(MINUS, "[0,false,null,\"\",[],{},\"0\"]", "[0]", "[false,null,\"\",[],{},\"0\"]");
        Bench.dueBinary(MINUS, "[[1],1,[[1]]]", "[[1]]", "[1,[[1]]]");
        Bench.dueBinary(MINUS, "[{\"a\":1,\"b\":2},{\"a\":1}]", "[{\"b\":2,\"a\":1}]", "[{\"a\":1}]");
        Bench.dueBinary(MINUS, "[1,2,3]", "[3,4,1]", "[2]");
    }

    private static void timesNumbers() {
        Bench.dueBinary(TIMES, "0", "0", "0");
        Bench.dueBinary(TIMES, "0", "-5", "0");
        Bench.dueBinary(TIMES, "-" + GREATEST, "0", "0");
        Bench.dueBinary(TIMES, "-" + GREATEST, "-1", GREATEST);
        Bench.dueBinary(TIMES, "1", "-" + GREATEST, "-" + GREATEST);
        // 6361 * 69431 * 20394401 is 2^53 - 1.
        Bench.dueBinary(TIMES, "6361", "1416003655831", GREATEST);
        Bench.dueBinary(TIMES, "-6361", "1416003655831", "-" + GREATEST);
    }

    private static void timesStrings() {
        Bench.dueBinary(TIMES, "\"ab\"", "1", "\"ab\"");
        Bench.dueBinary(TIMES, "1", "\"ab\"", "\"ab\"");
        Bench.dueBinary(TIMES, "\"ab\"", "2", "\"abab\"");
        Bench.dueBinary(TIMES, "3", "\"ab\"", "\"ababab\"");
        Bench.dueBinary(TIMES, "\"\"", "1", "\"\"");
        Bench.dueBinary(TIMES, GREATEST, "\"\"", "\"\"");
    }

    private static void timesBelowOne() {
        for (String times : new String[] {"0", "-1", "-4294967295", "-" + GREATEST}) {
            for (String text : new String[] {"\"\"", "\"ab\""}) {
                Bench.dueBinary(TIMES, text, times, "null");
                Bench.dueBinary(TIMES, times, text, "null");
            }
        }
    }

    private static void timesObjects() {
        Bench.dueBinary(TIMES, "{}", "{}", "{}");
        Bench.dueBinary(TIMES, "{\"a\":1}", "{}", "{\"a\":1}");
        Bench.dueBinary(TIMES, "{}", "{\"a\":{}}", "{\"a\":{}}");
        Bench.dueBinary(TIMES, "{\"a\":{}}", "{\"a\":{}}", "{\"a\":{}}");
        Bench.dueBinary(TIMES, "{\"a\":{\"x\":1}}", "{\"a\":{}}", "{\"a\":{\"x\":1}}");
        Bench.dueBinary(TIMES, "{\"a\":{\"x\":1}}", "{\"a\":null}", "{\"a\":null}");
        Bench.dueBinary(TIMES, "{\"a\":1}", "{\"a\":{\"x\":1}}", "{\"a\":{\"x\":1}}");
        Bench.dueBinary(TIMES, "{\"a\":[{\"x\":1}]}", "{\"a\":[{\"y\":2}]}", "{\"a\":[{\"y\":2}]}");
        Bench.dueBinary(TIMES, "{\"b\":{\"x\":1,\"o\":{\"p\":1}},\"c\":3}", "{\"d\":4,\"b\":{\"o\":{\"q\":2},\"x\":5}}",
                "{\"b\":{\"x\":5,\"o\":{\"p\":1,\"q\":2}},\"c\":3,\"d\":4}");
    }

    private static void divideNumbers() {
        Bench.dueBinary(DIVIDE, "7", "2", "3");
        Bench.dueBinary(DIVIDE, "-7", "2", "-3");
        Bench.dueBinary(DIVIDE, "7", "-2", "-3");
        Bench.dueBinary(DIVIDE, "-7", "-2", "3");
        Bench.dueBinary(DIVIDE, "1", "2", "0");
        Bench.dueBinary(DIVIDE, "-1", "2", "0");
        Bench.dueBinary(DIVIDE, "0", "-5", "0");
        Bench.dueBinary(DIVIDE, "-" + GREATEST, "-1", GREATEST);
        Bench.dueBinary(DIVIDE, "9007199254740990", GREATEST, "0");
    }

    private static void divideByZero() {
        for (String number : new String[] {"0", "1", "-1", GREATEST, "-" + GREATEST}) {
            Bench.dueBinary(DIVIDE, number, "0", Bench.ZERO);
        }
        Bench.dueBinary(DIVIDE, "\"a\"", "0", Bench.TYPE);
        Bench.dueBinary(DIVIDE, "null", "0", Bench.TYPE);
    }

    private static void pieces() {
        Bench.dueBinary(DIVIDE, "\"a,b\"", "\",\"", "[\"a\",\"b\"]");
        Bench.dueBinary(DIVIDE, "\",a,\"", "\",\"", "[\"\",\"a\",\"\"]");
        Bench.dueBinary(DIVIDE, "\",\"", "\",\"", "[\"\",\"\"]");
        Bench.dueBinary(DIVIDE, "\",,\"", "\",\"", "[\"\",\"\",\"\"]");
        Bench.dueBinary(DIVIDE, "\"ab\"", "\",\"", "[\"ab\"]");
        Bench.dueBinary(DIVIDE, "\"ab\"", "\"ab\"", "[\"\",\"\"]");
        Bench.dueBinary(DIVIDE, "\"ab\"", "\"abc\"", "[\"ab\"]");
        Bench.dueBinary(DIVIDE, "\"aaa\"", "\"aa\"", "[\"\",\"a\"]");
        Bench.dueBinary(DIVIDE, "\"aab\"", "\"ab\"", "[\"a\",\"\"]");
        Bench.dueBinary(DIVIDE, "\"a\\u0000b\"", "\"\\u0000\"", "[\"a\",\"b\"]");
        Bench.dueBinary(DIVIDE, "\"\\u0000\"", "\"a\"", "[\"\\u0000\"]");
        Bench.dueBinary(DIVIDE, "\"a\"", "\"a\\u0000\"", "[\"a\"]");
    }

    private static void allCharacters() {
        Bench.dueBinary(DIVIDE, "\"a\"", "\"\"", "[\"a\"]");
        Bench.dueBinary(DIVIDE, "\"ab\\u0000\\n\"", "\"\"", "[\"a\",\"b\",\"\\u0000\",\"\\n\"]");
    }

    private static void noneOfEmpty() {
        Bench.dueBinary(DIVIDE, "\"\"", "\"\"", "[]");
        Bench.dueBinary(DIVIDE, "\"\"", "\"a\"", "[]");
        Bench.dueBinary(DIVIDE, "\"\"", "\"ab\"", "[]");
    }

    private static void modulo() {
        Bench.dueBinary(MODULO, "7", "3", "1");
        Bench.dueBinary(MODULO, "-7", "3", "-1");
        Bench.dueBinary(MODULO, "7", "-3", "1");
        Bench.dueBinary(MODULO, "-7", "-3", "-1");
        Bench.dueBinary(MODULO, "-6", "3", "0");
        Bench.dueBinary(MODULO, "2", "3", "2");
        Bench.dueBinary(MODULO, "-2", "3", "-2");
        Bench.dueBinary(MODULO, "0", "-3", "0");
        Bench.dueBinary(MODULO, "-" + GREATEST, "-1", "0");
        Bench.dueBinary(MODULO, "-9007199254740990", GREATEST, "-9007199254740990");
    }

    private static void moduloZero() {
        for (String number : new String[] {"0", "1", "-1", GREATEST}) {
            Bench.dueBinary(MODULO, number, "0", Bench.ZERO);
        }
        Bench.dueBinary(MODULO, "\"a\"", "0", Bench.TYPE);
    }

    private static char kind(String value) {
        char first = value.charAt(0);
        return first == '-' || first == '0' ? 'N' : first;
    }

    /** Whether the document names this pair of kinds for the operator; n and N are null and a NUMBER. */
    private static boolean isNamed(int op, char a, char b) {
        String pair = "" + a + b;
        switch (op) {
            case PLUS:
                return a == 'n' || b == 'n' || "NN \"\" [[ {{".contains(pair);
            case MINUS:
                return "NN [[".contains(pair);
            case TIMES:
                return "NN \"N N\" {{".contains(pair);
            case DIVIDE:
                return "NN \"\"".contains(pair);
            default:
                return pair.equals("NN");
        }
    }

    private static void others() {
        for (int op = PLUS; op <= MODULO; op++) {
            for (String a : VALUES) {
                for (String b : VALUES) {
                    if (!isNamed(op, kind(a), kind(b))) {
                        Bench.dueBinary(op, a, b, Bench.TYPE);
                    } else {
                        Bench.due("op " + op + " of " + a + " and " + b + " is of a wrong type", Bench.binary(op, a, b).equals(Bench.TYPE), false);
                    }
                }
            }
        }
    }

    private static void tooGreat() {
        Bench.dueBinary(PLUS, GREATEST, "1", Bench.RANGE);
        Bench.dueBinary(PLUS, "-1", "-" + GREATEST, Bench.RANGE);
        Bench.dueBinary(PLUS, GREATEST, GREATEST, Bench.RANGE);
        Bench.dueBinary(MINUS, GREATEST, "-1", Bench.RANGE);
        Bench.dueBinary(MINUS, "-1", GREATEST, Bench.RANGE);
        Bench.dueBinary(MINUS, "-" + GREATEST, GREATEST, Bench.RANGE);
        Bench.dueBinary(TIMES, "4503599627370496", "2", Bench.RANGE);
        Bench.dueBinary(TIMES, "-4503599627370496", "2", Bench.RANGE);
        Bench.dueBinary(TIMES, "4503599627370495", "2", "9007199254740990");
        Bench.dueBinary(TIMES, "94906267", "94906267", Bench.RANGE);
        // 2^32 * 2^32 is 0 in 64 bits, 2^33 * (2^31 + 1) is 2^33 there.
        Bench.dueBinary(TIMES, "4294967296", "4294967296", Bench.RANGE);
        Bench.dueBinary(TIMES, "4294967296", "-4294967296", Bench.RANGE);
        Bench.dueBinary(TIMES, "-4294967296", "4294967296", Bench.RANGE);
        Bench.dueBinary(TIMES, "-4294967296", "-4294967296", Bench.RANGE);
        Bench.dueBinary(TIMES, "8589934592", "2147483649", Bench.RANGE);
        Bench.dueBinary(TIMES, GREATEST, GREATEST, Bench.RANGE);
        Bench.dueBinary(TIMES, "-" + GREATEST, "-" + GREATEST, Bench.RANGE);
        Bench.dueBinary(TIMES, "-" + GREATEST, GREATEST, Bench.RANGE);
    }
}
