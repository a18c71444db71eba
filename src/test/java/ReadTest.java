/** Promise 4: read. */
public final class ReadTest {
    private static final String GREATEST = "9007199254740991";

    public static void main(String[] args) {
        values();
        brokenWords();
        brokenNumbers();
        brokenStrings();
        brokenLists();
        depth();
        tapeAndRegisters();
        Bench.finish();
    }

    private static void values() {
        for (String json : new String[] {"null", "true", "false", "0", "7", "-7", "10", GREATEST, "-" + GREATEST,
            "\"\"", "\"a b~!#[]{}:,/'\"", "[]", "{}", "[[],{}]", "{\"\":0}", "{\"b\":1,\"a\":[2,{\"b\":3}]}",
            "[null,true,false,-1,\"x\",[0],{\"k\":null}]"}) {
            Bench.dueRead(json, json);
        }
        Bench.dueRead("-0", "0");
        Bench.dueRead("[-0,0]", "[0,0]");
        Bench.dueRead(" \t\n\r[ 1\n,\t2 , { \"a\" :\r3 , \"b\" : [ ] , \"c\":{ } } ]\r\n\t ", "[1,2,{\"a\":3,\"b\":[],\"c\":{}}]");
        Bench.dueRead("\"\\\"\\\\\\/\\b\\f\\n\\r\\t\"", "\"\\\"\\\\/\\b\\f\\n\\r\\t\"");
        Bench.dueRead("\"\\u0041\\u002f\\u005C\\u0022\\u007f\\u007F\\u001f\\u001F\\u0000\"",
                "\"A/\\\\\\\"\\u007f\\u007f\\u001f\\u001f\\u0000\"");
        Bench.dueRead(Bench.letters(4094), Bench.letters(4094));
        Bench.dueRead(Bench.array("0", 2047), Bench.array("0", 2047));
        Bench.dueRead("{\"a\":1,\"A\":2,\"\":3,\"aa\":4}", "{\"a\":1,\"A\":2,\"\":3,\"aa\":4}");
        Bench.dueRead("[{\"a\":1},{\"a\":2},{\"a\":{\"a\":3}}]", "[{\"a\":1},{\"a\":2},{\"a\":{\"a\":3}}]");
    }

    private static void brokenWords() {
        Bench.dueBroken("", 0);
        Bench.dueBroken("   ", 3);
        Bench.dueBroken("n", 1);
        Bench.dueBroken("nul", 3);
        Bench.dueBroken("nulL", 3);
        Bench.dueBroken("Null", 0);
        Bench.dueBroken("tru", 3);
        Bench.dueBroken("trve", 2);
        Bench.dueBroken("falze", 3);
        Bench.dueBroken("nullx", 4);
        Bench.dueBroken("null null", 5);
        Bench.dueBroken("true\u0000", 4);
        Bench.dueBroken("\u000bnull", 0);
        Bench.dueBroken("\u00a0null", 0);
        Bench.dueBroken("]", 0);
        Bench.dueBroken(",", 0);
        Bench.dueBroken("'a'", 0);
    }

    private static void brokenNumbers() {
        Bench.dueBroken("-", 1);
        Bench.dueBroken("- 1", 1);
        Bench.dueBroken("--1", 1);
        Bench.dueBroken("+1", 0);
        Bench.dueBroken(".5", 0);
        Bench.dueBroken("01", 1);
        Bench.dueBroken("00", 1);
        Bench.dueBroken("-01", 2);
        Bench.dueBroken("[01]", 2);
        Bench.dueBroken("1.5", 1);
        Bench.dueBroken("1e5", 1);
        Bench.dueBroken("1 2", 2);
        Bench.dueBroken("12a", 2);
        Bench.dueBroken("9007199254740992", 0);
        Bench.dueBroken("-9007199254740992", 0);
        Bench.dueBroken("  -9007199254740992", 2);
        Bench.dueBroken("[1, 90071992547409910]", 4);
        Bench.dueBroken("18446744073709551616", 0);
        Bench.dueBroken("9223372036854775808", 0);
        Bench.dueBroken("1" + "0".repeat(100) + "x", 0);
        Bench.dueBroken("[x,9007199254740992]", 1);
    }

    private static void brokenStrings() {
        Bench.dueBroken("\"", 1);
        Bench.dueBroken("\"abc", 4);
        Bench.dueBroken("\"a\u001fb\"", 2);
        Bench.dueBroken("\"a\nb\"", 2);
        Bench.dueBroken("\"a\u007fb\"", 2);
        Bench.dueBroken("\"a\u0080b\"", 2);
        Bench.dueBroken("\"a\u00ffb\"", 2);
        Bench.dueBroken("\"\\", 2);
        Bench.dueBroken("\"\\\"", 3);
        Bench.dueBroken("\"\\x\"", 2);
        Bench.dueBroken("\"\\U0041\"", 2);
        Bench.dueBroken("\"\\'\"", 2);
        Bench.dueBroken("\"\\u", 3);
        Bench.dueBroken("\"\\u00", 5);
        Bench.dueBroken("\"\\u004\"", 6);
        Bench.dueBroken("\"\\u004g\"", 6);
        Bench.dueBroken("\"\\ug041\"", 3);
        Bench.dueBroken("\"ab\\u0080\"", 3);
        Bench.dueBroken("\"ab\\uffff\"", 3);
        Bench.dueBroken("\"ab\\u1000\"", 3);
        Bench.dueBroken("\"ab\\u0100\"", 3);
        Bench.dueBroken("\"ab\\uff f\"", 7);
        Bench.dueBroken("\"a\"b\"", 3);
    }

    private static void brokenLists() {
        Bench.dueBroken("[", 1);
        Bench.dueBroken("[1", 2);
        Bench.dueBroken("[1,", 3);
        Bench.dueBroken("[1,]", 3);
        Bench.dueBroken("[,1]", 1);
        Bench.dueBroken("[1 2]", 3);
        Bench.dueBroken("[1}", 2);
        Bench.dueBroken("[1]]", 3);
        Bench.dueBroken("[1:2]", 2);
        Bench.dueBroken("{", 1);
        Bench.dueBroken("{]", 1);
        Bench.dueBroken("{1:2}", 1);
        Bench.dueBroken("{\"a\"}", 4);
        Bench.dueBroken("{\"a\" 1}", 5);
        Bench.dueBroken("{\"a\":}", 5);
        Bench.dueBroken("{\"a\":1", 6);
        Bench.dueBroken("{\"a\":1,}", 7);
        Bench.dueBroken("{\"a\":1 \"b\":2}", 7);
        Bench.dueBroken("{\"a\":1,\"b\"]", 10);
        Bench.dueBroken("{,}", 1);
        Bench.dueBroken("{\"a\":1,\"a\":2}", 7);
        Bench.dueBroken("{\"a\":1,  \"a\":2}", 9);
        Bench.dueBroken("{\"a\":1,\"b\":2,\"\\u0061\":3}", 13);
        Bench.dueBroken("{\"a\":1,\"a\"x", 7);
        Bench.dueBroken("{\"\":1,\"\":2}", 6);
        Bench.dueBroken("[{\"a\":{\"b\":1,\"b\":2}}]", 13);
    }

    private static void depth() {
        String forty = "[".repeat(40) + "]".repeat(40);
        Bench.dueRead(forty, forty);
        String objects = "{\"a\":".repeat(40) + "1" + "}".repeat(40);
        Bench.dueRead(objects, objects);
        Bench.dueBroken("[".repeat(41) + "]".repeat(41), 40);
        Bench.dueBroken("[1," + "[".repeat(40), 42);
        Bench.dueBroken("{\"a\":".repeat(41) + "1" + "}".repeat(41), 200);
        Bench.dueBroken("[".repeat(40) + "{}" + "]".repeat(40), 40);
        Bench.dueBroken("[".repeat(4096), 40);
        String wide = "[" + forty.substring(1, 79) + "," + forty.substring(1, 79) + "]";
        Bench.dueRead(wide, wide);
    }

    private static void tapeAndRegisters() {
        Bench x = new Bench().tape("[1");
        for (int r : new int[] {-1, 8, Integer.MIN_VALUE, Integer.MAX_VALUE}) {
            Bench.due("read(" + r + ")", x.outcome(() -> x.bench.read(r)), Bench.ARGUMENT);
            Bench.due("tape after read(" + r + ")", x.bench.count(0), 2);
            Bench.due("place after read(" + r + ")", x.bench.count(2), -1);
        }
        x.outcome(() -> x.bench.read(0));
        Bench.due("place after a broken read", x.bench.count(2), 2);
        x.outcome(() -> x.bench.read(8));
        Bench.due("place after a read out of range", x.bench.count(2), 2);
        for (int r = 0; r < 8; r++) {
            x.with(r, "[" + r + "]");
        }
        for (int r = 0; r < 8; r++) {
            Bench.due("register " + r, x.shown(r), "[" + r + "]");
        }
        Bench.due("place after a whole read", x.bench.count(2), -1);
    }
}
