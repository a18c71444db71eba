/** Promise 6: binary. */
public final class BinaryTest {
    private static final int PLUS = 0;
    private static final int MINUS = 1;
    private static final int TIMES = 2;
    private static final int DIVIDE = 3;
    private static final int MODULO = 4;
    private static final String GREATEST = "9007199254740991";
    private static final String[] ONE_OF_EACH_KIND = {"null", "false", "true", "3", "\"s\"", "[1]", "{\"a\":1}"};

    public static void main(String[] args) {
        plus();
        minus();
        times();
        divide();
        modulo();
        kindsThatDoNotFit();
        registersOutOfRange();
        sameRegisters();
        Bench.finish();
    }

    private static void plus() {
        Bench.dueBinary(PLUS, "2", "-5", "-3");
        Bench.dueBinary(PLUS, GREATEST, "0", GREATEST);
        Bench.dueBinary(PLUS, GREATEST, "1", Bench.RANGE);
        Bench.dueBinary(PLUS, "-" + GREATEST, "-1", Bench.RANGE);
        Bench.dueBinary(PLUS, "-" + GREATEST, GREATEST, "0");
        Bench.dueBinary(PLUS, "\"ab\"", "\"cd\"", "\"abcd\"");
        Bench.dueBinary(PLUS, "\"\"", "\"\"", "\"\"");
        Bench.dueBinary(PLUS, "[1,[2]]", "[[2],3]", "[1,[2],[2],3]");
        Bench.dueBinary(PLUS, "[]", "[]", "[]");
        Bench.dueBinary(PLUS, "{\"a\":1,\"b\":2,\"c\":3}", "{\"d\":4,\"b\":[5],\"a\":{}}",
                "{\"a\":{},\"b\":[5],\"c\":3,\"d\":4}");
        Bench.dueBinary(PLUS, "{\"a\":{\"x\":1}}", "{\"a\":{\"y\":2}}", "{\"a\":{\"y\":2}}");
        Bench.dueBinary(PLUS, "{}", "{\"b\":1,\"a\":2}", "{\"b\":1,\"a\":2}");
        for (String any : ONE_OF_EACH_KIND) {
            Bench.dueBinary(PLUS, "null", any, any);
            Bench.dueBinary(PLUS, any, "null", any);
        }
        Bench.dueBinary(PLUS, Bench.letters(2000), Bench.letters(2094), Bench.letters(4094));
        Bench.dueBinary(PLUS, Bench.letters(2000), Bench.letters(2095), Bench.LIMIT);
        Bench.dueBinary(PLUS, Bench.array("0", 1000), Bench.array("0", 1047), Bench.array("0", 2047));
        Bench.dueBinary(PLUS, Bench.array("0", 1000), Bench.array("0", 1048), Bench.LIMIT);
    }

    private static void minus() {
        Bench.dueBinary(MINUS, "2", "5", "-3");
        Bench.dueBinary(MINUS, "-" + GREATEST, "1", Bench.RANGE);
        Bench.dueBinary(MINUS, GREATEST, "-1", Bench.RANGE);
        Bench.dueBinary(MINUS, "[1,2,1,3,\"1\",[1]]", "[1,3]", "[2,\"1\",[1]]");
        Bench.dueBinary(MINUS, "[{\"a\":1,\"b\":2},[1,2],[2,1]]", "[{\"b\":2,\"a\":1},[2,1]]", "[[1,2]]");
        Bench.dueBinary(MINUS, "[1,1]", "[]", "[1,1]");
        Bench.dueBinary(MINUS, "[1,1]", "[1]", "[]");
        Bench.dueBinary(MINUS, "[null,false,true,0]", "[false,null]", "[true,0]");
    }

    private static void times() {
        Bench.dueBinary(TIMES, "-6", "7", "-42");
        Bench.dueBinary(TIMES, "0", GREATEST, "0");
        Bench.dueBinary(TIMES, GREATEST, "-1", "-" + GREATEST);
        Bench.dueBinary(TIMES, GREATEST, GREATEST, Bench.RANGE);
        Bench.dueBinary(TIMES, GREATEST, "-" + GREATEST, Bench.RANGE);
        Bench.dueBinary(TIMES, "4294967296", "4294967296", Bench.RANGE);
        Bench.dueBinary(TIMES, "94906265", "94906265", "9007199136250225");
        Bench.dueBinary(TIMES, "94906266", "94906266", Bench.RANGE);
        Bench.dueBinary(TIMES, "4503599627370496", "2", Bench.RANGE);
        Bench.dueBinary(TIMES, "4503599627370495", "2", "9007199254740990");
        Bench.dueBinary(TIMES, "\"ab\"", "3", "\"ababab\"");
        Bench.dueBinary(TIMES, "3", "\"ab\"", "\"ababab\"");
        Bench.dueBinary(TIMES, "\"ab\"", "1", "\"ab\"");
        Bench.dueBinary(TIMES, "\"ab\"", "0", "null");
        Bench.dueBinary(TIMES, "-1", "\"ab\"", "null");
        Bench.dueBinary(TIMES, "\"\"", GREATEST, "\"\"");
        Bench.dueBinary(TIMES, "\"\"", "0", "null");
        Bench.dueBinary(TIMES, "\"a\"", "4094", Bench.letters(4094));
        Bench.dueBinary(TIMES, "\"a\"", "4095", Bench.LIMIT);
        Bench.dueBinary(TIMES, "\"a\"", "4294967297", Bench.LIMIT);
        Bench.dueBinary(TIMES, "\"a\"", GREATEST, Bench.LIMIT);
        Bench.dueBinary(TIMES, "\"\\u0000\"", "682", "\"" + "\\u0000".repeat(682) + "\"");
        Bench.dueBinary(TIMES, "\"\\u0000\"", "683", Bench.LIMIT);
        Bench.dueBinary(TIMES, "{\"a\":1,\"b\":{\"c\":{\"x\":1},\"d\":2},\"e\":{}}", "{\"f\":0,\"b\":{\"d\":[],\"c\":{\"y\":2}},\"e\":7}",
                "{\"a\":1,\"b\":{\"c\":{\"x\":1,\"y\":2},\"d\":[]},\"e\":7,\"f\":0}");
        Bench.dueBinary(TIMES, "{\"a\":1}", "{\"a\":{\"b\":2}}", "{\"a\":{\"b\":2}}");
        Bench.dueBinary(TIMES, "{}", "{}", "{}");
    }

    private static void divide() {
        Bench.dueBinary(DIVIDE, "7", "2", "3");
        Bench.dueBinary(DIVIDE, "-7", "2", "-3");
        Bench.dueBinary(DIVIDE, "7", "-2", "-3");
        Bench.dueBinary(DIVIDE, "-7", "-2", "3");
        Bench.dueBinary(DIVIDE, "1", "2", "0");
        Bench.dueBinary(DIVIDE, "-1", "2", "0");
        Bench.dueBinary(DIVIDE, "1", "0", Bench.ZERO);
        Bench.dueBinary(DIVIDE, "0", "0", Bench.ZERO);
        Bench.dueBinary(DIVIDE, "\"a,b,,c\"", "\",\"", "[\"a\",\"b\",\"\",\"c\"]");
        Bench.dueBinary(DIVIDE, "\",\"", "\",\"", "[\"\",\"\"]");
        Bench.dueBinary(DIVIDE, "\"aaa\"", "\"aa\"", "[\"\",\"a\"]");
        Bench.dueBinary(DIVIDE, "\"aaaa\"", "\"aa\"", "[\"\",\"\",\"\"]");
        Bench.dueBinary(DIVIDE, "\"abc\"", "\"x\"", "[\"abc\"]");
        Bench.dueBinary(DIVIDE, "\"abc\"", "\"abcd\"", "[\"abc\"]");
        Bench.dueBinary(DIVIDE, "\"abc\"", "\"\"", "[\"a\",\"b\",\"c\"]");
        Bench.dueBinary(DIVIDE, "\"\"", "\"\"", "[]");
        Bench.dueBinary(DIVIDE, "\"\"", "\"a\"", "[]");
        Bench.dueBinary(DIVIDE, Bench.letters(1023), "\"\"", Bench.array("\"a\"", 1023));
        Bench.dueBinary(DIVIDE, Bench.letters(1024), "\"\"", Bench.LIMIT);
        Bench.dueBinary(DIVIDE, Bench.letters(4094), "\"\"", Bench.LIMIT);
        Bench.dueBinary(DIVIDE, Bench.letters(4094), "\"a\"", Bench.LIMIT);
    }

    private static void modulo() {
        Bench.dueBinary(MODULO, "7", "3", "1");
        Bench.dueBinary(MODULO, "-7", "3", "-1");
        Bench.dueBinary(MODULO, "7", "-3", "1");
        Bench.dueBinary(MODULO, "-7", "-3", "-1");
        Bench.dueBinary(MODULO, "-6", "3", "0");
        Bench.dueBinary(MODULO, "5", "0", Bench.ZERO);
    }

    /** By the kinds of the two values in their ORDER: which operators do not refuse them. */
    private static boolean fits(int op, int a, int b) {
        boolean numbers = a == 3 && b == 3;
        switch (op) {
            case PLUS:
                return a == 0 || b == 0 || a == b && a >= 3;
            case MINUS:
                return numbers || a == 5 && b == 5;
            case TIMES:
                return numbers || a == 3 && b == 4 || a == 4 && b == 3 || a == 6 && b == 6;
            case DIVIDE:
                return numbers || a == 4 && b == 4;
            default:
                return numbers;
        }
    }

    private static void kindsThatDoNotFit() {
        for (int op = 0; op < 5; op++) {
            for (int a = 0; a < 7; a++) {
                for (int b = 0; b < 7; b++) {
                    String got = Bench.binary(op, ONE_OF_EACH_KIND[a], ONE_OF_EACH_KIND[b]);
                    Bench.due("op " + op + " of " + ONE_OF_EACH_KIND[a] + " and " + ONE_OF_EACH_KIND[b] + " is of a wrong type",
                            got.equals(Bench.TYPE), !fits(op, a, b));
                }
            }
        }
    }

    private static void registersOutOfRange() {
        int[][] calls = {{-1, 0, 0, 0}, {8, 0, 0, 0}, {0, -1, 0, 0}, {0, 5, 0, 0}, {0, 0, -1, 0}, {0, 0, 8, 0},
            {0, 0, 0, -1}, {0, 0, 0, 8}, {Integer.MAX_VALUE, 1, 0, 0}, {0, Integer.MIN_VALUE, 0, 0}, {8, 1, 0, 0}};
        for (int[] call : calls) {
            Bench x = new Bench();
            Bench.due("binary" + java.util.Arrays.toString(call), x.outcome(() -> {
                x.bench.binary(call[0], call[1], call[2], call[3]);
                return null;
            }), Bench.ARGUMENT);
            Bench.due("reason after a number out of range", x.bench.count(3), 0);
        }
    }

    private static void sameRegisters() {
        Bench x = new Bench().with(7, "[1,2]");
        x.bench.binary(7, PLUS, 7, 7);
        Bench.due("register 7 + register 7", x.shown(7), "[1,2,1,2]");
        x.bench.binary(7, MINUS, 7, 7);
        Bench.due("register 7 - register 7", x.shown(7), "[]");
    }
}
