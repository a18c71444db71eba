/** Promise 4: read. */
public final class ReadTest {
    private static final String GREATEST = "9007199254740991";

    public static void main(String[] args) {
        values();
        brokenWords();
        brokenNumbers();
        brokenStrings();
        brokenLists();
        depth();
        tapeAndRegisters();
        Bench.finish();
    }

    private static void dueRead(String json, String want) {
        Bench x = new Bench().tape(json);
        String outcome = x.outcome(() -> x.bench.read(3));
        Bench.due("read of " + Bench.brief(json), outcome, String.valueOf(want.length()));
        Bench.due("value of " + Bench.brief(json), x.shown(3), want);
        Bench.due("place of " + Bench.brief(json), x.bench.count(2), -1);
        Bench.due("tape behind " + Bench.brief(json), x.bench.count(0), 0);
    }

    private static void dueBroken(String json, int place) {
        Bench x = new Bench().with(3, "[7]").tape(json);
        Bench.due("read of " + Bench.brief(json), x.outcome(() -> x.bench.read(3)), Bench.BROKEN);
        Bench.due("place of " + Bench.brief(json), x.bench.count(2), place);
        Bench.due("tape behind " + Bench.brief(json), x.bench.count(0), 0);
        Bench.due("reason of " + Bench.brief(json), x.bench.count(3), 0);
        Bench.due("register after " + Bench.brief(json), x.shown(3), "[7]");
    }

    private static void values() {
        for (String json : new String[] {"null", "true", "false", "0", "7", "-7", "10", GREATEST, "-" + GREATEST,
            "\"\"", "\"a b~!#[]{}:,/'\"", "[]", "{}", "[[],{}]", "{\"\":0}", "{\"b\":1,\"a\":[2,{\"b\":3}]}",
            "[null,true,false,-1,\"x\",[0],{\"k\":null}]"}) {
            dueRead(json, json);
        }
        dueRead("-0", "0");
        dueRead("[-0,0]", "[0,0]");
        dueRead(" \t\n\r[ 1\n,\t2 , { \"a\" :\r3 , \"b\" : [ ] , \"c\":{ } } ]\r\n\t ", "[1,2,{\"a\":3,\"b\":[],\"c\":{}}]");
        dueRead("\"\\\"\\\\\\/\\b\\f\\n\\r\\t\"", "\"\\\"\\\\/\\b\\f\\n\\r\\t\"");
        dueRead("\"\\u0041\\u002f\\u005C\\u0022\\u007f\\u007F\\u001f\\u001F\\u0000\"",
                "\"A/\\\\\\\"\\u007f\\u007f\\u001f\\u001f\\u0000\"");
        dueRead(Bench.letters(4094), Bench.letters(4094));
        dueRead(Bench.array("0", 2047), Bench.array("0", 2047));
        dueRead("{\"a\":1,\"A\":2,\"\":3,\"aa\":4}", "{\"a\":1,\"A\":2,\"\":3,\"aa\":4}");
        dueRead("[{\"a\":1},{\"a\":2},{\"a\":{\"a\":3}}]", "[{\"a\":1},{\"a\":2},{\"a\":{\"a\":3}}]");
    }

    private static void brokenWords() {
        dueBroken("", 0);
        dueBroken("   ", 3);
        dueBroken("n", 1);
        dueBroken("nul", 3);
        dueBroken("nulL", 3);
        dueBroken("Null", 0);
        dueBroken("tru", 3);
        dueBroken("trve", 2);
        dueBroken("falze", 3);
        dueBroken("nullx", 4);
        dueBroken("null null", 5);
        dueBroken("true\u0000", 4);
        dueBroken("\u000bnull", 0);
        dueBroken("\u00a0null", 0);
        dueBroken("]", 0);
        dueBroken(",", 0);
        dueBroken("'a'", 0);
    }

    private static void brokenNumbers() {
        dueBroken("-", 1);
        dueBroken("- 1", 1);
        dueBroken("--1", 1);
        dueBroken("+1", 0);
        dueBroken(".5", 0);
        dueBroken("01", 1);
        dueBroken("00", 1);
        dueBroken("-01", 2);
        dueBroken("[01]", 2);
        dueBroken("1.5", 1);
        dueBroken("1e5", 1);
        dueBroken("1 2", 2);
        dueBroken("12a", 2);
        dueBroken("9007199254740992", 0);
        dueBroken("-9007199254740992", 0);
        dueBroken("  -9007199254740992", 2);
        dueBroken("[1, 90071992547409910]", 4);
        dueBroken("18446744073709551616", 0);
        dueBroken("9223372036854775808", 0);
        dueBroken("1" + "0".repeat(100) + "x", 0);
        dueBroken("[x,9007199254740992]", 1);
    }

    private static void brokenStrings() {
        dueBroken("\"", 1);
        dueBroken("\"abc", 4);
        dueBroken("\"a\u001fb\"", 2);
        dueBroken("\"a\nb\"", 2);
        dueBroken("\"a\u007fb\"", 2);
        dueBroken("\"a\u0080b\"", 2);
        dueBroken("\"a\u00ffb\"", 2);
        dueBroken("\"\\", 2);
        dueBroken("\"\\\"", 3);
        dueBroken("\"\\x\"", 2);
        dueBroken("\"\\U0041\"", 2);
        dueBroken("\"\\'\"", 2);
        dueBroken("\"\\u", 3);
        dueBroken("\"\\u00", 5);
        dueBroken("\"\\u004\"", 6);
        dueBroken("\"\\u004g\"", 6);
        dueBroken("\"\\ug041\"", 3);
        dueBroken("\"ab\\u0080\"", 3);
        dueBroken("\"ab\\uffff\"", 3);
        dueBroken("\"ab\\u1000\"", 3);
        dueBroken("\"ab\\u0100\"", 3);
        dueBroken("\"ab\\uff f\"", 7);
        dueBroken("\"a\"b\"", 3);
    }

    private static void brokenLists() {
        dueBroken("[", 1);
        dueBroken("[1", 2);
        dueBroken("[1,", 3);
        dueBroken("[1,]", 3);
        dueBroken("[,1]", 1);
        dueBroken("[1 2]", 3);
        dueBroken("[1}", 2);
        dueBroken("[1]]", 3);
        dueBroken("[1:2]", 2);
        dueBroken("{", 1);
        dueBroken("{]", 1);
        dueBroken("{1:2}", 1);
        dueBroken("{\"a\"}", 4);
        dueBroken("{\"a\" 1}", 5);
        dueBroken("{\"a\":}", 5);
        dueBroken("{\"a\":1", 6);
        dueBroken("{\"a\":1,}", 7);
        dueBroken("{\"a\":1 \"b\":2}", 7);
        dueBroken("{\"a\":1,\"b\"]", 10);
        dueBroken("{,}", 1);
        dueBroken("{\"a\":1,\"a\":2}", 7);
        dueBroken("{\"a\":1,  \"a\":2}", 9);
        dueBroken("{\"a\":1,\"b\":2,\"\\u0061\":3}", 13);
        dueBroken("{\"a\":1,\"a\"x", 7);
        dueBroken("{\"\":1,\"\":2}", 6);
        dueBroken("[{\"a\":{\"b\":1,\"b\":2}}]", 13);
    }

    private static void depth() {
        String forty = "[".repeat(40) + "]".repeat(40);
        dueRead(forty, forty);
        String objects = "{\"a\":".repeat(40) + "1" + "}".repeat(40);
        dueRead(objects, objects);
        dueBroken("[".repeat(41) + "]".repeat(41), 40);
        dueBroken("[1," + "[".repeat(40), 42);
        dueBroken("{\"a\":".repeat(41) + "1" + "}".repeat(41), 200);
        dueBroken("[".repeat(40) + "{}" + "]".repeat(40), 40);
        dueBroken("[".repeat(4096), 40);
        String wide = "[" + forty.substring(1, 79) + "," + forty.substring(1, 79) + "]";
        dueRead(wide, wide);
    }

    private static void tapeAndRegisters() {
        Bench x = new Bench().tape("[1");
        for (int r : new int[] {-1, 8, Integer.MIN_VALUE, Integer.MAX_VALUE}) {
            Bench.due("read(" + r + ")", x.outcome(() -> x.bench.read(r)), Bench.ARGUMENT);
            Bench.due("tape after read(" + r + ")", x.bench.count(0), 2);
            Bench.due("place after read(" + r + ")", x.bench.count(2), -1);
        }
        x.outcome(() -> x.bench.read(0));
        Bench.due("place after a broken read", x.bench.count(2), 2);
        x.outcome(() -> x.bench.read(8));
        Bench.due("place after a read out of range", x.bench.count(2), 2);
        for (int r = 0; r < 8; r++) {
            x.with(r, "[" + r + "]");
        }
        for (int r = 0; r < 8; r++) {
            Bench.due("register " + r, x.shown(r), "[" + r + "]");
        }
        Bench.due("place after a whole read", x.bench.count(2), -1);
    }
}
