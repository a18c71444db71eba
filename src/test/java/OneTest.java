/** Promise 9: one. */
public final class OneTest {
    private static final int NOT = 0;
    private static final int LENGTH = 1;
    private static final int KEYS = 2;
    private static final int KEYS_AS_THEY_CAME = 3;
    private static final int TO_STRING = 4;
    private static final int TO_NUMBER = 5;
    private static final int TO_JSON = 6;
    private static final int FROM_JSON = 7;
    private static final int SORT = 8;
    private static final int REVERSE = 9;
    private static final int EXPLODE = 10;
    private static final int IMPLODE = 11;
    private static final int SMALL = 12;
    private static final int CAPITAL = 13;

    public static void main(String[] args) {
        not();
        length();
        keys();
        toStringAndJson();
        toNumber();
        fromJson();
        sort();
        reverse();
        codes();
        letters();
        outOfRange();
        intoTheSameRegister();
        Bench.finish();
    }

    private static void refused(int f, String... values) {
        for (String a : values) {
            Bench.dueOne(f, a, Bench.TYPE);
        }
    }

    private static void not() {
        Bench.dueOne(NOT, "null", "true");
        Bench.dueOne(NOT, "false", "true");
        for (String a : new String[] {"true", "0", "1", "\"\"", "[]", "{}"}) {
            Bench.dueOne(NOT, a, "false");
        }
    }

    private static void length() {
        Bench.dueOne(LENGTH, "null", "0");
        Bench.dueOne(LENGTH, "-5", "5");
        Bench.dueOne(LENGTH, "5", "5");
        Bench.dueOne(LENGTH, "-9007199254740991", "9007199254740991");
        Bench.dueOne(LENGTH, "\"\"", "0");
        Bench.dueOne(LENGTH, "\"a\\u0000\\n\"", "3");
        Bench.dueOne(LENGTH, "[]", "0");
        Bench.dueOne(LENGTH, "[[1,2],3]", "2");
        Bench.dueOne(LENGTH, "{\"a\":[1,2,3],\"b\":0}", "2");
        Bench.dueOne(LENGTH, Bench.letters(4094), "4094");
        refused(LENGTH, "true", "false");
    }

    private static void keys() {
        Bench.dueOne(KEYS, "{\"b\":1,\"a\":[2],\"\":3,\"ab\":4}", "[\"\",\"a\",\"ab\",\"b\"]");
        Bench.dueOne(KEYS_AS_THEY_CAME, "{\"b\":1,\"a\":[2],\"\":3,\"ab\":4}", "[\"b\",\"a\",\"\",\"ab\"]");
        for (int f = KEYS; f <= KEYS_AS_THEY_CAME; f++) {
            Bench.dueOne(f, "[]", "[]");
            Bench.dueOne(f, "{}", "[]");
            Bench.dueOne(f, "[[5],6,{}]", "[0,1,2]");
            Bench.dueOne(f, Bench.array("0", 2047), Bench.LIMIT);
            refused(f, "null", "true", "false", "0", "\"a\"");
        }
    }

    private static void toStringAndJson() {
        Bench.dueOne(TO_STRING, "\"a\\n\"", "\"a\\n\"");
        Bench.dueOne(TO_JSON, "\"a\\n\"", "\"\\\"a\\\\n\\\"\"");
        for (int f : new int[] {TO_STRING, TO_JSON}) {
            Bench.dueOne(f, "null", "\"null\"");
            Bench.dueOne(f, "true", "\"true\"");
            Bench.dueOne(f, "-12", "\"-12\"");
            Bench.dueOne(f, "[1,\"a\",{\"b\":null}]", "\"[1,\\\"a\\\",{\\\"b\\\":null}]\"");
            Bench.dueOne(f, Bench.array("0", 2046), "\"" + Bench.array("0", 2046) + "\"");
            Bench.dueOne(f, Bench.array("0", 2047), Bench.LIMIT);
        }
        Bench.dueOne(TO_STRING, Bench.letters(4094), Bench.letters(4094));
        Bench.dueOne(TO_JSON, Bench.letters(4090), "\"\\\"" + "a".repeat(4090) + "\\\"\"");
        Bench.dueOne(TO_JSON, Bench.letters(4091), Bench.LIMIT);
    }

    private static void toNumber() {
        Bench.dueOne(TO_NUMBER, "-5", "-5");
        Bench.dueOne(TO_NUMBER, "\"-5\"", "-5");
        Bench.dueOne(TO_NUMBER, "\"0\"", "0");
        Bench.dueOne(TO_NUMBER, "\"-0\"", "0");
        Bench.dueOne(TO_NUMBER, "\"9007199254740991\"", "9007199254740991");
        for (String a : new String[] {"\"\"", "\"-\"", "\"01\"", "\"+1\"", "\" 1\"", "\"1 \"", "\"1.0\"", "\"1e1\"", "\"x\"", "\"null\"",
            "\"9007199254740992\"", "\"-9007199254740992\"", "\"1\\u0000\"", "\"[1]\""}) {
            Bench.dueOne(TO_NUMBER, a, Bench.NO_NUMBER);
        }
        refused(TO_NUMBER, "null", "true", "false", "[]", "[1]", "{}");
    }

    private static void fromJson() {
        Bench.dueOne(FROM_JSON, "\"null\"", "null");
        Bench.dueOne(FROM_JSON, "\" [1 , {\\\"a\\\":\\\"\\\\n\\\"}]\\t\"", "[1,{\"a\":\"\\n\"}]");
        String forty = "[".repeat(40) + "]".repeat(40);
        Bench.dueOne(FROM_JSON, "\"" + forty + "\"", forty);
        for (String a : new String[] {"\"\"", "\" \"", "\"nul\"", "\"1 2\"", "\"[1,]\"", "\"9007199254740992\"", "\"\\\"\\u007f\\\"\"",
            "\"{\\\"a\\\":1,\\\"a\\\":2}\"", "\"[" + forty + "]\"", "\"\\\"\\\\u0080\\\"\""}) {
            Bench.dueOne(FROM_JSON, a, Bench.NO_JSON);
        }
        refused(FROM_JSON, "null", "true", "1", "[]", "{}");
        Bench x = new Bench().with(0, "\"1 2\"");
        x.outcome(() -> {
            x.bench.one(1, FROM_JSON, 0);
            return null;
        });
        Bench.due("place after a fromjson that is refused", x.bench.count(2), -1);
    }

    private static void sort() {
        Bench.dueOne(SORT, "[]", "[]");
        Bench.dueOne(SORT, "[{},[],\"a\",3,true,false,null]", "[null,false,true,3,\"a\",[],{}]");
        Bench.dueOne(SORT, "[3,1,2,10,-1,1]", "[-1,1,1,2,3,10]");
        Bench.dueOne(SORT, "[{\"b\":1,\"a\":1},{\"a\":1},{\"a\":1,\"b\":1},{\"a\":0}]", "[{\"a\":0},{\"a\":1},{\"b\":1,\"a\":1},{\"a\":1,\"b\":1}]");
        StringBuilder descending = new StringBuilder("[");
        StringBuilder ascending = new StringBuilder("[");
        for (int k = 0; k < 1000; k++) {
            descending.append(k == 0 ? "" : ",").append(999 - k);
            ascending.append(k == 0 ? "" : ",").append(k);
        }
        Bench.dueOne(SORT, descending + "]", ascending + "]");
        Bench.dueOne(SORT, Bench.array("0", 2047), Bench.array("0", 2047));
        refused(SORT, "null", "true", "1", "\"ba\"", "{\"b\":1,\"a\":2}");
    }

    private static void reverse() {
        Bench.dueOne(REVERSE, "null", "[]");
        Bench.dueOne(REVERSE, "[]", "[]");
        Bench.dueOne(REVERSE, "[1,[2,3],{\"a\":4,\"b\":5},\"xy\"]", "[\"xy\",{\"a\":4,\"b\":5},[2,3],1]");
        Bench.dueOne(REVERSE, "\"\"", "\"\"");
        Bench.dueOne(REVERSE, "\"abc\\n\"", "\"\\ncba\"");
        refused(REVERSE, "true", "false", "12", "{}");
    }

    private static void codes() {
        Bench.dueOne(EXPLODE, "\"\"", "[]");
        Bench.dueOne(EXPLODE, "\"a\\u0000\\u007f\\n\"", "[97,0,127,10]");
        Bench.dueOne(EXPLODE, Bench.letters(1365), Bench.array("97", 1365));
        Bench.dueOne(EXPLODE, Bench.letters(1366), Bench.LIMIT);
        refused(EXPLODE, "null", "true", "1", "[]", "{}");
        Bench.dueOne(IMPLODE, "[]", "\"\"");
        Bench.dueOne(IMPLODE, "[97,0,127,10]", "\"a\\u0000\\u007f\\n\"");
        Bench.dueOne(IMPLODE, "[128]", Bench.RANGE);
        Bench.dueOne(IMPLODE, "[97,-1]", Bench.RANGE);
        Bench.dueOne(IMPLODE, "[4294967393]", Bench.RANGE);
        Bench.dueOne(IMPLODE, "[-1,\"a\"]", Bench.TYPE);
        Bench.dueOne(IMPLODE, "[128,97,null]", Bench.TYPE);
        Bench.dueOne(IMPLODE, Bench.array("0", 682), "\"" + "\\u0000".repeat(682) + "\"");
        Bench.dueOne(IMPLODE, Bench.array("0", 683), Bench.LIMIT);
        Bench.dueOne(IMPLODE, "[" + "0,".repeat(700) + "128]", Bench.RANGE);
        refused(IMPLODE, "null", "true", "1", "\"a\"", "{}", "[[97]]");
    }

    private static void letters() {
        String all = "@ABCXYZ[`abcxyz{09\\u0000\\u007f";
        Bench.dueOne(SMALL, "\"" + all + "\"", "\"@abcxyz[`abcxyz{09\\u0000\\u007f\"");
        Bench.dueOne(CAPITAL, "\"" + all + "\"", "\"@ABCXYZ[`ABCXYZ{09\\u0000\\u007f\"");
        for (int f = SMALL; f <= CAPITAL; f++) {
            Bench.dueOne(f, "\"\"", "\"\"");
            refused(f, "null", "true", "1", "[\"a\"]", "{\"a\":1}");
        }
    }

    private static void outOfRange() {
        int[][] calls = {{-1, 0, 0}, {8, 0, 0}, {0, -1, 0}, {0, 14, 0}, {0, 0, -1}, {0, 0, 8}, {8, 2, 0}, {0, Integer.MAX_VALUE, 0}};
        for (int[] call : calls) {
            Bench x = new Bench();
            Bench.due("one" + java.util.Arrays.toString(call), x.outcome(() -> {
                x.bench.one(call[0], call[1], call[2]);
                return null;
            }), Bench.ARGUMENT);
            Bench.due("reason after a number out of range", x.bench.count(3), 0);
        }
    }

    private static void intoTheSameRegister() {
        Bench x = new Bench().with(4, "[3,1,2]");
        x.bench.one(4, SORT, 4);
        Bench.due("sorted into itself", x.shown(4), "[1,2,3]");
        x.bench.one(4, TO_JSON, 4);
        Bench.due("tojson into itself", x.shown(4), "\"[1,2,3]\"");
        x.bench.one(4, FROM_JSON, 4);
        Bench.due("fromjson into itself", x.shown(4), "[1,2,3]");
    }
}
