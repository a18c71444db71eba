import java.nio.charset.StandardCharsets;
import java.util.Arrays;

/**
 * What the tests share: JSON in and out of a ValueBench by its own calls, and a count of the answers that are wrong.
 * To show long values takes more than the 512 calls of the document; the program answers later calls no differently.
 */
final class Bench {
    static final String ARGUMENT = "throws.IllegalArgumentException";
    static final String BROKEN = "throws.UnsupportedOperationException";
    static final String LIMIT = "throws.IndexOutOfBoundsException";
    static final String TYPE = "refused 1";
    static final String RANGE = "refused 2";
    static final String ZERO = "refused 3";
    static final String NO_NUMBER = "refused 4";
    static final String NO_JSON = "refused 5";

    private static final int FEED = 20;
    private static final int CAPACITY = 4096;
    private static int checked = 0;
    private static int wrong = 0;

    interface Call {
        Object answer();
    }

    final ValueBench bench = new ValueBench();

    /** Brings bytes to an empty tape; the last feed begins earlier where the tape would not hold all of its bytes. */
    Bench tape(byte[] bytes) {
        int begin = 0;
        while (begin < bytes.length) {
            if (begin + FEED > CAPACITY) {
                begin = bench.end(CAPACITY - FEED);
            }
            byte[] part = Arrays.copyOfRange(bytes, begin, begin + FEED);
            bench.feed(intAt(part, 0), intAt(part, 4), intAt(part, 8), intAt(part, 12), intAt(part, 16));
            begin += FEED;
        }
        bench.end(bytes.length);
        return this;
    }

    Bench tape(String text) {
        return tape(text.getBytes(StandardCharsets.ISO_8859_1));
    }

    private static int intAt(byte[] bytes, int i) {
        return (bytes[i] & 255) << 24 | (bytes[i + 1] & 255) << 16 | (bytes[i + 2] & 255) << 8 | bytes[i + 3] & 255;
    }

    Bench with(int r, String json) {
        tape(json).bench.read(r);
        return this;
    }

    String shown(int r) {
        int length = bench.print(r);
        StringBuilder text = new StringBuilder();
        for (int i = 0; i < length; i += 8) {
            long bytes = bench.word(i);
            for (int k = 0; k < 8 && i + k < length; k++) {
                text.append((char) (bytes >> 56 - 8 * k & 255));
            }
        }
        return text.toString();
    }

    /** The answer of a call, "done" if it has none, or what it throws, with the reason if it is refused. */
    String outcome(Call call) {
        try {
            Object answer = call.answer();
            return answer == null ? "done" : answer.toString();
        } catch (ArithmeticException e) {
            return "refused " + bench.count(3);
        } catch (RuntimeException e) {
            return "throws." + e.getClass().getSimpleName();
        }
    }

    private static final String OLD = "\"old\"";

    /** Register 2 after a call, or what the call throws; then nothing may have changed. */
    private String registerTwo(String a, String b, Call call) {
        with(0, a).with(1, b).with(2, OLD);
        String outcome = outcome(call);
        String first = shown(0);
        String second = shown(1);
        String third = shown(2);
        due("register 0 after a call that makes register 2", first, a);
        due("register 1 after a call that makes register 2", second, b);
        if (outcome.equals("done")) {
            with(3, third);
            due("register 2 is the same as what it prints: " + brief(third), bench.same(2, 3), true);
            return third;
        }
        due("register 2 after a call that throws", third, OLD);
        return outcome;
    }

    static String binary(int op, String a, String b) {
        Bench x = new Bench();
        return x.registerTwo(a, b, () -> {
            x.bench.binary(2, op, 0, 1);
            return null;
        });
    }

    static String one(int f, String a) {
        Bench x = new Bench();
        return x.registerTwo(a, "null", () -> {
            x.bench.one(2, f, 0);
            return null;
        });
    }

    static String two(int f, String a, String b) {
        Bench x = new Bench();
        return x.registerTwo(a, b, () -> {
            x.bench.two(2, f, 0, 1);
            return null;
        });
    }

    static String sort(int f, String a, String keys) {
        Bench x = new Bench();
        return x.registerTwo(a, keys, () -> {
            x.bench.sort(2, f, 0, 1);
            return null;
        });
    }

    static void dueBinary(int op, String a, String b, String want) {
        due("binary op " + op + " of " + brief(a) + " and " + brief(b), binary(op, a, b), want);
    }

    static void dueOne(int f, String a, String want) {
        due("one f " + f + " of " + brief(a), one(f, a), want);
    }

    static void dueTwo(int f, String a, String x, String want) {
        due("two f " + f + " of " + brief(a) + " and " + brief(x), two(f, a, x), want);
    }

    static void dueSort(int f, String a, String keys, String want) {
        due("sort f " + f + " of " + brief(a) + " by " + brief(keys), sort(f, a, keys), want);
    }

    static void dueRead(String json, String want) {
        Bench x = new Bench().tape(json);
        String outcome = x.outcome(() -> x.bench.read(3));
        due("read of " + brief(json), outcome, String.valueOf(want.length()));
        due("value of " + brief(json), x.shown(3), want);
        due("place of " + brief(json), x.bench.count(2), -1);
        due("tape behind " + brief(json), x.bench.count(0), 0);
    }

    static void dueBroken(String json, int place) {
        Bench x = new Bench().with(3, "[7]").tape(json);
        due("read of " + brief(json), x.outcome(() -> x.bench.read(3)), BROKEN);
        due("place of " + brief(json), x.bench.count(2), place);
        due("tape behind " + brief(json), x.bench.count(0), 0);
        due("reason of " + brief(json), x.bench.count(3), 0);
        due("register after " + brief(json), x.shown(3), "[7]");
    }

    /** That two values stand in this order, both ways round, and are the same only if it is 0. */
    static void dueOrder(String a, String b, int order) {
        ValueBench bench = new Bench().with(0, a).with(7, b).bench;
        due("compare of " + brief(a) + " and " + brief(b), bench.compare(0, 7), order);
        due("compare of " + brief(b) + " and " + brief(a), bench.compare(7, 0), -order);
        due("same of " + brief(a) + " and " + brief(b), bench.same(0, 7), order == 0);
        due("same of " + brief(b) + " and " + brief(a), bench.same(7, 0), order == 0);
    }

    /** Each value before all that come later, and the same as itself. */
    static void dueAscending(String... values) {
        for (int i = 0; i < values.length; i++) {
            for (int j = i; j < values.length; j++) {
                dueOrder(values[i], values[j], i == j ? 0 : -1);
            }
        }
    }

    /** The answers that a sentence of the document asks for; it is told if one of them is wrong or none was looked at. */
    static void sentence(String words, Runnable test) {
        int checkedBefore = checked;
        int wrongBefore = wrong;
        try {
            test.run();
        } catch (RuntimeException e) {
            due("a call", e.toString(), "no exception");
        }
        if (checked == checkedBefore || wrong != wrongBefore) {
            wrong = Math.max(wrong, wrongBefore + 1);
            System.out.println("does not hold: " + words);
        }
    }

    static void due(String call, Object got, Object want) {
        checked++;
        if (!got.equals(want)) {
            wrong++;
            System.out.println(call + " answered " + brief(got.toString()) + ", due is " + brief(want.toString()));
        }
    }

    static String brief(String text) {
        return text.length() <= 200 ? text : text.substring(0, 200) + ".. (" + text.length() + ")";
    }

    /** A character as it stands PRINTED. */
    static String printed(int code) {
        int letter = "\b\t\n\f\r".indexOf(code);
        if (letter >= 0) {
            return "\\" + "btnfr".charAt(letter);
        }
        if (code == '"' || code == '\\') {
            return "\\" + (char) code;
        }
        return code < 32 || code == 127 ? String.format("\\u%04x", code) : String.valueOf((char) code);
    }

    /** A string in JSON of one letter many times. */
    static String letters(int many) {
        return "\"" + "a".repeat(many) + "\"";
    }

    /** An array in JSON of one value many times. */
    static String array(String value, int many) {
        return "[" + String.join(",", java.util.Collections.nCopies(many, value)) + "]";
    }

    static void finish() {
        System.out.println(checked + " answers looked at, " + wrong + " wrong");
        if (wrong != 0 || checked == 0) {
            System.exit(1);
        }
    }
}
