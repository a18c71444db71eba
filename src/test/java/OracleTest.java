import java.util.ArrayList;
import java.util.LinkedHashMap;
import java.util.List;
import java.util.Map;
import java.util.Objects;
import java.util.Random;

/** Runs of calls with pseudorandom values from fixed seeds, every answer held against the oracle's. */
public final class OracleTest {
    private static final int RUNS = 3000;
    private static final int ROUNDS = 60;
    private static final long GREATEST = (1L << 53) - 1;
    private static final String[] TEXTS = {"", "a", "b", "ab", "aa", "aba", "bab", "ba,ab", ",", "A", "1", "-12", "[1]", "{\"a\":[2]}", "null",
        "\"\\\"", "\u0000\u001f\u007f\n", " 7", "9007199254740992", "{\"a\":1,\"a\":2}", "[1,]", "zZ09~"};
    private static final String[] NAMES = {"a", "b", "c", "", "ab", "B", "aa", "\n", "0"};
    private static final String SIGNS = "{}[],:\"\\ \n019-ntfu8aA.\u0000\u007f";

    private final Random random;
    private final Bench bench = new Bench();
    private final Object[] registers = new Object[8];
    private int reason = 0;

    private OracleTest(long seed) {
        random = new Random(seed);
    }

    public static void main(String[] args) {
        for (int run = 0; run < RUNS; run++) {
            OracleTest test = new OracleTest(run);
            for (int round = 0; round < ROUNDS; round++) {
                test.round(run + "/" + round);
            }
        }
        Bench.finish();
    }

    private void round(String where) {
        switch (random.nextInt(8)) {
            case 0:
            case 1:
                read(where, json(value(random.nextInt(5))));
                break;
            case 2:
                read(where, broken(json(value(random.nextInt(4)))));
                break;
            case 3:
                order(where);
                break;
            default:
                make(where);
        }
        Bench.due(where + " count(3)", bench.bench.count(3), reason);
    }

    private Object value(int depth) {
        switch (random.nextInt(depth == 0 ? 6 : 12)) {
            case 0:
                return null;
            case 1:
                return random.nextBoolean();
            case 2:
                return (long) random.nextInt(7) - 2;
            case 3:
                return number();
            case 4:
            case 5:
                return TEXTS[random.nextInt(TEXTS.length)];
            case 6:
            case 7:
            case 8:
                List<Object> list = new ArrayList<>();
                for (int k = random.nextInt(6); k > 0; k--) {
                    list.add(value(depth - 1));
                }
                return list;
            default:
                Map<String, Object> map = new LinkedHashMap<>();
                for (int k = random.nextInt(6); k > 0; k--) {
                    map.put(NAMES[random.nextInt(NAMES.length)], value(depth - 1));
                }
                return map;
        }
    }

    private long number() {
        switch (random.nextInt(4)) {
            case 0:
                return GREATEST - random.nextInt(2);
            case 1:
                return random.nextInt(3) - GREATEST;
            case 2:
                return random.nextLong() >> 11 + random.nextInt(50);
            default:
                return random.nextInt(140);
        }
    }

    /** The value as JSON, some of it with blanks and characters written otherwise. */
    private String json(Object value) {
        String printed = Oracle.printed(value);
        if (random.nextInt(3) > 0) {
            return printed;
        }
        StringBuilder out = new StringBuilder();
        boolean within = false;
        for (int k = 0; k < printed.length(); k++) {
            char c = printed.charAt(k);
            if (c == '\\') {
                out.append(c).append(printed.charAt(++k));
            } else if (c == '"') {
                within = !within;
                out.append(c);
            } else if (within && printed.charAt(k - 1) != 'u' && random.nextInt(4) == 0 && !isOfEscape(printed, k)) {
                out.append(String.format(random.nextBoolean() ? "\\u%04x" : "\\u%04X", (int) c));
            } else if (!within && "[]{},:".indexOf(c) >= 0) {
                out.append(" \t\n\r".substring(random.nextInt(5))).append(c).append("\r \n\t".substring(random.nextInt(5)));
            } else {
                out.append(c);
            }
        }
        return out.length() <= 4096 ? out.toString() : printed;
    }

    private static boolean isOfEscape(String printed, int k) {
        int start = printed.lastIndexOf("\\u00", k);
        return start >= 0 && k < start + 6;
    }

    private String broken(String json) {
        StringBuilder out = new StringBuilder(json);
        for (int k = random.nextInt(3); k >= 0; k--) {
            int at = random.nextInt(out.length() + 1);
            char sign = SIGNS.charAt(random.nextInt(SIGNS.length()));
            switch (random.nextInt(4)) {
                case 0:
                    out.insert(at, sign);
                    break;
                case 1:
                    out.setLength(at);
                    break;
                case 2:
                    out.replace(at, Math.min(at + 1, out.length()), String.valueOf(sign));
                    break;
                default:
                    out.delete(at, Math.min(at + 1, out.length()));
            }
        }
        return out.length() <= 4096 ? out.toString() : out.substring(0, 4096);
    }

    private void read(String where, String json) {
        int r = random.nextInt(8);
        if (json.length() > 4096) {
            return;
        }
        OracleReader reader = new OracleReader(json);
        if (reader.place() < 0) {
            registers[r] = reader.value();
        }
        String want = reader.place() < 0 ? String.valueOf(Oracle.printed(reader.value()).length()) : Bench.BROKEN;
        bench.tape(json);
        Bench.due(where + " read of " + json, bench.outcome(() -> bench.bench.read(r)), want);
        Bench.due(where + " place of " + json, bench.bench.count(2), reader.place());
        Bench.due(where + " tape", bench.bench.count(0), 0);
        dueRegister(where + " read", r);
    }

    private void dueRegister(String what, int r) {
        Bench.due(what + ": register " + r, bench.shown(r), Oracle.printed(registers[r]));
    }

    private void order(String where) {
        int a = random.nextInt(8);
        int b = random.nextInt(8);
        String pair = Oracle.printed(registers[a]) + " and " + Oracle.printed(registers[b]);
        Bench.due(where + " compare of " + pair, bench.bench.compare(a, b), Oracle.compare(registers[a], registers[b]));
        Bench.due(where + " same of " + pair, bench.bench.same(a, b), Objects.equals(registers[a], registers[b]));
    }

    private interface Making {
        Object value() throws Oracle.Refused;
    }

    private void make(String where) {
        int to = random.nextInt(8);
        int a = random.nextInt(8);
        int b = random.nextInt(4) == 0 ? a : random.nextInt(8);
        Object first = registers[a];
        Object second = registers[b];
        String values = Oracle.printed(first) + " and " + Oracle.printed(second);
        switch (random.nextInt(4)) {
            case 0:
                int op = random.nextInt(5);
                due(where + " op " + op + " of " + values, to, () -> bench.bench.binary(to, op, a, b), () -> Oracle.binary(op, first, second));
                break;
            case 1:
                int f = random.nextInt(14);
                due(where + " one f " + f + " of " + values, to, () -> bench.bench.one(to, f, a), () -> Oracle.one(f, first));
                break;
            case 2:
                int g = random.nextInt(10);
                due(where + " two f " + g + " of " + values, to, () -> bench.bench.two(to, g, a, b), () -> Oracle.two(g, first, second));
                break;
            default:
                int h = random.nextInt(5);
                due(where + " sort f " + h + " of " + values, to, () -> bench.bench.sort(to, h, a, b), () -> Oracle.sort(h, first, second));
        }
    }

    private void due(String what, int to, Runnable call, Making making) {
        String want = "done";
        try {
            Object value = Oracle.withinLimits(making.value());
            registers[to] = value;
        } catch (Oracle.Refused e) {
            want = e.reason == 0 ? Bench.LIMIT : "refused " + e.reason;
            reason = e.reason == 0 ? reason : e.reason;
        }
        Bench.due(what, bench.outcome(() -> {
            call.run();
            return null;
        }), want);
        dueRegister(what, to);
    }
}
