/** The boundary cases of JSON and PRINTED in the document's Terms, and of where read tells PLACE, a test for each sentence. */
public final class BoundaryJsonTest {
    private static final String BLANKS = "\t\n\r ";
    private static final String WHOLE = "{\"a\\n\":[-120,0,null,true,false,\"\\u0041~\",[],{}],\"b\":{\"\":\"\"}}";

    public static void main(String[] args) {
        Bench.sentence("blanks (9, 10, 13, 32)", BoundaryJsonTest::blanks);
        Bench.sentence("blanks between signs", BoundaryJsonTest::blanksBetweenSigns);
        Bench.sentence("null true false", BoundaryJsonTest::words);
        Bench.sentence("NUMBER: [-] 0 or digits", BoundaryJsonTest::numbers);
        Bench.sentence("digits that do not begin with 0", BoundaryJsonTest::zeroBefore);
        Bench.sentence("STRING: \" characters 32 .. 126 but \" and \\", BoundaryJsonTest::plainCharacters);
        Bench.sentence("\\ and one of \" \\ / b f n r t", BoundaryJsonTest::escapes);
        Bench.sentence("u and four of 0 .. 9 a .. f A .. F", BoundaryJsonTest::fourDigits);
        Bench.sentence("u and four .., below 128", BoundaryJsonTest::below128);
        Bench.sentence("[ ]", BoundaryJsonTest::arrays);
        Bench.sentence("{ }", BoundaryJsonTest::objects);
        Bench.sentence("names once", BoundaryJsonTest::namesOnce);
        Bench.sentence("at most 40 [ and { within one another", BoundaryJsonTest::depth);
        Bench.sentence("PRINTED: no blanks", BoundaryJsonTest::printedWithoutBlanks);
        Bench.sentence("\" and \\ with \\ before", BoundaryJsonTest::printedSigns);
        Bench.sentence("8 9 10 12 13 as \\b \\t \\n \\f \\r", BoundaryJsonTest::printedLetters);
        Bench.sentence("others below 32 and 127 as \\u and four of 0 .. 9 a .. f", BoundaryJsonTest::printedCodes);
        Bench.sentence("PLACE: of the first byte that can't stand there", BoundaryJsonTest::firstByte);
        Bench.sentence("PLACE: the length at the end", BoundaryJsonTest::lengthAtTheEnd);
        Bench.sentence("PLACE: a NUMBER too great: its first byte", BoundaryJsonTest::placeOfNumber);
        Bench.sentence("PLACE: \\ and u and a number above 7F: its first byte", BoundaryJsonTest::placeOfCode);
        Bench.sentence("PLACE: a name that was there: its first byte", BoundaryJsonTest::placeOfName);
        Bench.finish();
    }

    private static void blanks() {
        for (int code = 0; code < 256; code++) {
            String sign = String.valueOf((char) code);
            boolean blank = BLANKS.contains(sign);
            dueReadIf(blank, "null" + sign, "null", 4);
            if (code < 33 || code > 126) {
                dueReadIf(blank, sign + "null", "null", 0);
                dueReadIf(blank, "[" + sign + "]", "[]", 1);
                dueReadIf(blank, "{\"a\"" + sign + ":1}", "{\"a\":1}", 4);
            }
        }
        Bench.dueBroken(BLANKS, 4);
        Bench.dueRead(" ".repeat(4095) + "1", "1");
        Bench.dueRead("1" + "\n".repeat(4095), "1");
    }

    private static void dueReadIf(boolean whole, String json, String want, int place) {
        if (whole) {
            Bench.dueRead(json, want);
        } else {
            Bench.dueBroken(json, place);
        }
    }

    private static void blanksBetweenSigns() {
        String[] signs = {"", "{", "\"a\"", ":", "[", "1", ",", "[", "]", ",", "{", "}", "]", ",", "\"b\"", ":", "null", "}", ""};
        for (int k = 0; k < BLANKS.length(); k++) {
            Bench.dueRead(String.join(BLANKS.substring(k, k + 1), signs), "{\"a\":[1,[],{}],\"b\":null}");
        }
        Bench.dueRead(String.join(BLANKS, signs), "{\"a\":[1,[],{}],\"b\":null}");
        Bench.dueBroken("nu ll", 2);
        Bench.dueBroken("tru\te", 3);
        Bench.dueBroken("- 1", 1);
        Bench.dueBroken("1 2", 2);
        Bench.dueBroken("[1 2]", 3);
        Bench.dueBroken("\"\\ n\"", 2);
        Bench.dueBroken("\"\\u00 41\"", 5);
        Bench.dueRead("\" a  \"", "\" a  \"");
    }

    private static void words() {
        for (String word : new String[] {"null", "true", "false"}) {
            Bench.dueRead(word, word);
            for (int k = 0; k < word.length(); k++) {
                Bench.dueBroken(word.substring(0, k), k);
                Bench.dueBroken(word.substring(0, k) + "x" + word.substring(k + 1), k);
                Bench.dueBroken(word.substring(0, k) + word.substring(k, k + 1).toUpperCase() + word.substring(k + 1), k);
            }
            Bench.dueBroken(word + word.charAt(word.length() - 1), word.length());
        }
    }

    private static void numbers() {
        for (int digit = 0; digit < 10; digit++) {
            Bench.dueRead(String.valueOf(digit), String.valueOf(digit));
            Bench.dueRead("1" + digit, "1" + digit);
            Bench.dueRead("-1" + digit, "-1" + digit);
        }
        Bench.dueRead("-0", "0");
        Bench.dueRead("1234567890", "1234567890");
        for (int code = 0; code < 256; code++) {
            boolean digit = code >= '0' && code <= '9';
            if (!digit) {
                Bench.dueBroken("-" + (char) code, 1);
                dueReadIf(BLANKS.indexOf(code) >= 0, "12" + (char) code, "12", 2);
            }
        }
        Bench.dueBroken("-", 1);
        Bench.dueBroken("[-]", 2);
        Bench.dueBroken("+1", 0);
        Bench.dueBroken("/", 0);
        Bench.dueBroken(":", 0);
    }

    private static void zeroBefore() {
        for (int digit = 0; digit < 10; digit++) {
            Bench.dueBroken("0" + digit, 1);
            Bench.dueBroken("-0" + digit, 2);
            Bench.dueBroken("[1,0" + digit + "]", 4);
        }
        Bench.dueRead("[0,-0,10,100]", "[0,0,10,100]");
    }

    private static void plainCharacters() {
        for (int code = 0; code < 256; code++) {
            String json = "\"" + (char) code + "\"";
            if (code == '"') {
                Bench.dueBroken(json, 2);
            } else if (code == '\\') {
                Bench.dueBroken(json, 3);
            } else {
                dueReadIf(code >= 32 && code <= 126, json, json, 1);
            }
        }
        Bench.dueRead("\"\"", "\"\"");
        Bench.dueBroken("\"", 1);
    }

    private static void escapes() {
        String letters = "\"\\/bfnrt";
        String codes = "\"\\/\b\f\n\r\t";
        for (int code = 0; code < 256; code++) {
            int which = letters.indexOf(code);
            String json = "\"\\" + (char) code + "\"";
            if (which >= 0) {
                Bench x = new Bench().with(0, json);
                x.bench.one(1, 10, 0);
                Bench.due("codes of " + json, x.shown(1), "[" + (int) codes.charAt(which) + "]");
            } else {
                Bench.dueBroken(json, code == 'u' ? 3 : 2);
            }
        }
    }

    private static void fourDigits() {
        for (int place = 0; place < 4; place++) {
            for (int code = 0; code < 256; code++) {
                StringBuilder digits = new StringBuilder("0041");
                digits.setCharAt(place, (char) code);
                boolean hex = code < 128 && Character.digit(code, 16) >= 0;
                int number = hex ? Integer.parseInt(digits.toString(), 16) : -1;
                String json = "\"\\u" + digits + "\"";
                if (hex && number < 128) {
                    Bench.dueRead(json, "\"" + Bench.printed(number) + "\"");
                } else {
                    Bench.dueBroken(json, hex ? 1 : 3 + place);
                }
            }
        }
        Bench.dueRead("\"\\u00411\"", "\"A1\"");
        for (int many = 0; many < 4; many++) {
            Bench.dueBroken("\"\\u" + "0".repeat(many) + "\"", 3 + many);
        }
    }

    private static void below128() {
        for (String digits : new String[] {"007f", "007F"}) {
            Bench.dueRead("\"\\u" + digits + "\"", "\"\\u007f\"");
        }
        for (String digits : new String[] {"0080", "00ff", "00FF", "0100", "0141", "1000", "1041", "8041", "ffff", "FFFF", "ff80"}) {
            Bench.dueBroken("\"\\u" + digits + "\"", 1);
            Bench.dueOne(7, "\"\\\"\\\\u" + digits + "\\\"\"", Bench.NO_JSON);
        }
    }

    private static void arrays() {
        Bench.dueRead("[]", "[]");
        Bench.dueRead("[[]]", "[[]]");
        Bench.dueRead("[[],[]]", "[[],[]]");
        Bench.dueBroken("[,]", 1);
        Bench.dueBroken("[1,]", 3);
        Bench.dueBroken("[,1]", 1);
        Bench.dueBroken("[1,,2]", 3);
        Bench.dueBroken("[1}", 2);
        Bench.dueBroken("[1:1]", 2);
        Bench.dueBroken("[1]]", 3);
        Bench.dueBroken("[1][2]", 3);
        Bench.dueBroken("]", 0);
        Bench.dueRead(Bench.array("0", 2047), Bench.array("0", 2047));
    }

    private static void objects() {
        Bench.dueRead("{}", "{}");
        Bench.dueRead("{\"\":{}}", "{\"\":{}}");
        Bench.dueBroken("{,}", 1);
        Bench.dueBroken("{\"a\"}", 4);
        Bench.dueBroken("{\"a\",1}", 4);
        Bench.dueBroken("{\"a\"::1}", 5);
        Bench.dueBroken("{\"a\":}", 5);
        Bench.dueBroken("{\"a\":1,}", 7);
        Bench.dueBroken("{\"a\":1,,\"b\":2}", 7);
        Bench.dueBroken("{\"a\":1]", 6);
        Bench.dueBroken("{\"a\":1 \"b\":2}", 7);
        Bench.dueBroken("{a:1}", 1);
        Bench.dueBroken("{1:1}", 1);
        Bench.dueBroken("{:1}", 1);
        Bench.dueBroken("{:x", 1);
        Bench.dueBroken("{]", 1);
        Bench.dueBroken("{}}", 2);
        Bench.dueBroken("}", 0);
    }

    private static void namesOnce() {
        Bench.dueBroken("{\"a\":1,\"a\":1}", 7);
        Bench.dueBroken("{\"a\":1,\"b\":2,\"a\":3}", 13);
        Bench.dueBroken("{\"a\":1,\"b\":2,\"b\":3}", 13);
        Bench.dueBroken("{\"\":1,\"\":2}", 6);
        Bench.dueBroken("{\"a\":1,\"\\u0061\":2}", 7);
        Bench.dueBroken("{\"\\/\":1,\"/\":2}", 8);
        Bench.dueBroken("[0,{\"x\":{\"a\":[],\"a\":{}}}]", 16);
        Bench.dueRead("{\"a\":{\"a\":{\"a\":1}},\"A\":[{\"a\":1},{\"a\":2}],\"aa\":3,\"\":4,\" \":5}",
                "{\"a\":{\"a\":{\"a\":1}},\"A\":[{\"a\":1},{\"a\":2}],\"aa\":3,\"\":4,\" \":5}");
        Bench.dueRead("{\"a\":\"b\",\"b\":\"a\"}", "{\"a\":\"b\",\"b\":\"a\"}");
        Bench.dueOne(7, "\"{\\\"a\\\":1,\\\"a\\\":1}\"", Bench.NO_JSON);
    }

    private static void depth() {
        String mixed = "[{\"a\":".repeat(20) + "0" + "}]".repeat(20);
        Bench.dueRead("[".repeat(40) + "]".repeat(40), "[".repeat(40) + "]".repeat(40));
        Bench.dueRead("{\"a\":".repeat(39) + "{}" + "}".repeat(39), "{\"a\":".repeat(39) + "{}" + "}".repeat(39));
        Bench.dueRead(mixed, mixed);
        Bench.dueBroken("[".repeat(41) + "]".repeat(41), 40);
        Bench.dueBroken("[".repeat(40) + "{}" + "]".repeat(40), 40);
        Bench.dueBroken("{\"a\":".repeat(40) + "[]" + "}".repeat(40), 200);
        Bench.dueBroken("{\"a\":".repeat(40) + "{}" + "}".repeat(40), 200);
        Bench.dueBroken(mixed.replace("0", "[]"), 120);
        Bench.dueBroken("[".repeat(4096), 40);
        String inner = "[".repeat(39) + "]".repeat(39);
        String wide = "[" + inner + "," + inner + "," + inner + "]";
        Bench.dueRead(wide, wide);
        Bench.dueBroken("[" + inner + ",[" + inner + "]]", 119);
        String whole = "[".repeat(40) + "]".repeat(40);
        Bench.dueOne(7, "\"" + whole + "\"", whole);
        Bench.dueOne(7, "\"[" + whole + "]\"", Bench.NO_JSON);
    }

    private static void printedWithoutBlanks() {
        Bench.dueRead(" { \"a b\" : [ 1 , \" \" , { } , [ ] ] , \"\" : null } ", "{\"a b\":[1,\" \",{},[]],\"\":null}");
    }

    private static void printedSigns() {
        Bench.dueRead("\"\\\"\\\\\\/\"", "\"\\\"\\\\/\"");
        Bench.dueRead("\"\\u0022\\u005c\\u002f\"", "\"\\\"\\\\/\"");
        Bench.dueRead("{\"\\\"\":\"\\\\\"}", "{\"\\\"\":\"\\\\\"}");
    }

    private static void printedLetters() {
        Bench.dueRead("\"\\u0008\\u0009\\u000a\\u000c\\u000d\"", "\"\\b\\t\\n\\f\\r\"");
        Bench.dueRead("{\"\\u0008\\u0009\\u000A\\u000C\\u000D\":0}", "{\"\\b\\t\\n\\f\\r\":0}");
    }

    private static void printedCodes() {
        for (int code = 0; code < 128; code++) {
            boolean other = code < 32 && "\b\t\n\f\r".indexOf(code) < 0 || code == 127;
            if (other) {
                String want = String.format("\"\\u%04x\"", code);
                Bench.dueRead(String.format("\"\\u%04X\"", code), want);
                Bench.dueOne(11, "[" + code + "]", want);
            } else if (code != '"' && code != '\\' && code >= 32) {
                Bench.dueOne(11, "[" + code + "]", "\"" + (char) code + "\"");
            }
        }
    }

    private static void firstByte() {
        for (int k = 0; k < WHOLE.length(); k++) {
            Bench.dueBroken(WHOLE.substring(0, k) + '\u0001' + WHOLE.substring(k + 1), k);
            Bench.dueBroken(WHOLE.substring(0, k) + '\u00ff' + WHOLE.substring(k), k);
        }
        Bench.dueBroken("[x,y]", 1);
        Bench.dueBroken(" \n\u0000", 2);
    }

    private static void lengthAtTheEnd() {
        Bench.dueRead(WHOLE, WHOLE.replace("\\u0041", "A"));
        for (int k = 0; k < WHOLE.length(); k++) {
            Bench.dueBroken(WHOLE.substring(0, k), k);
        }
        Bench.dueBroken("\"" + "a".repeat(4095), 4096);
        Bench.dueBroken(" ".repeat(4096), 4096);
        Bench.dueBroken("[" + "0,".repeat(2047) + "0", 4096);
    }

    private static void placeOfNumber() {
        Bench.dueBroken("9007199254740992", 0);
        Bench.dueBroken("-9007199254740992", 0);
        Bench.dueBroken("[7, -9007199254740992 ]", 4);
        Bench.dueBroken("{\"a\":9007199254740992}", 5);
        Bench.dueBroken("9007199254740992x", 0);
        Bench.dueBroken("18446744073709551617", 0);
        Bench.dueBroken("9".repeat(4096), 0);
        Bench.dueBroken("-" + "9".repeat(4095), 0);
    }

    private static void placeOfCode() {
        Bench.dueBroken("\"\\u0080\"", 1);
        Bench.dueBroken("[\"ab\\n\\uffFF\"]", 6);
        Bench.dueBroken("{\"a\\u1234\":1}", 3);
        Bench.dueBroken("\"\\u0100", 1);
    }

    private static void placeOfName() {
        Bench.dueBroken("{\"a\":1, \"a\" :2}", 8);
        Bench.dueBroken("{\"ab\":1,\"b\":2,\"\\u0061b\":3}", 14);
        Bench.dueBroken("[{\"a\":{\"a\":1,\"b\":2,\"b\":3}}]", 19);
        Bench.dueBroken("{\"a\":1,\"a\"", 7);
    }
}
