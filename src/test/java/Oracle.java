import java.math.BigInteger;
import java.util.ArrayList;
import java.util.Collections;
import java.util.LinkedHashMap;
import java.util.List;
import java.util.Map;
import java.util.Objects;
import java.util.TreeMap;
import java.util.stream.Collectors;

/**
 * The document once more, over trees of the Java library: null, Boolean, Long, String, List, LinkedHashMap. It shares
 * no code and no layout with the program, so that both are unlikely to be wrong in the same way.
 */
final class Oracle {
    private static final BigInteger GREATEST = BigInteger.TWO.pow(53).subtract(BigInteger.ONE);

    /** A value can't be made: the reason if it is refused, 0 if it is beyond the limits. */
    static final class Refused extends Exception {
        private static final long serialVersionUID = 1L;
        final int reason;

        Refused(int reason) {
            this.reason = reason;
        }
    }

    private static final int LIMIT = 0;
    private static final int TYPE = 1;
    private static final int RANGE = 2;
    private static final int ZERO = 3;
    private static final int NUMBER = 4;
    private static final int JSON = 5;

    static Object withinLimits(Object value) throws Refused {
        if (depth(value) > 60 || weight(value) > 60000 || printed(value).length() > 4096) {
            throw new Refused(LIMIT);
        }
        return value;
    }

    private static int depth(Object value) {
        return inside(value).stream().mapToInt(Oracle::depth).max().orElse(0) + (isList(value) || isMap(value) ? 1 : 0);
    }

    private static int weight(Object value) {
        int own = value instanceof String ? 1 + ((String) value).length() : 1;
        int names = isMap(value) ? map(value).keySet().stream().mapToInt(Oracle::weight).sum() : 0;
        return own + names + inside(value).stream().mapToInt(Oracle::weight).sum();
    }

    private static List<Object> inside(Object value) {
        return isList(value) ? list(value) : isMap(value) ? new ArrayList<>(map(value).values()) : List.of();
    }

    static String printed(Object value) {
        if (value instanceof String) {
            return quoted((String) value);
        }
        if (isList(value)) {
            return list(value).stream().map(Oracle::printed).collect(Collectors.joining(",", "[", "]"));
        }
        if (isMap(value)) {
            return map(value).entrySet().stream().map(e -> quoted(e.getKey()) + ":" + printed(e.getValue()))
                    .collect(Collectors.joining(",", "{", "}"));
        }
        return String.valueOf(value);
    }

    private static String quoted(String text) {
        String shown = text.replace("\\", "\\\\").replace("\"", "\\\"").replace("\b", "\\b").replace("\t", "\\t")
                .replace("\n", "\\n").replace("\f", "\\f").replace("\r", "\\r");
        StringBuilder out = new StringBuilder("\"");
        shown.chars().forEach(c -> out.append(c < 32 || c == 127 ? String.format("\\u%04x", c) : String.valueOf((char) c)));
        return out.append('"').toString();
    }

    private static boolean isList(Object value) {
        return value instanceof List;
    }

    private static boolean isMap(Object value) {
        return value instanceof Map;
    }

    private static boolean isNumber(Object value) {
        return value instanceof Long;
    }

    private static boolean isString(Object value) {
        return value instanceof String;
    }

    @SuppressWarnings("unchecked")
    static List<Object> list(Object value) {
        return (List<Object>) value;
    }

    @SuppressWarnings("unchecked")
    static Map<String, Object> map(Object value) {
        return (Map<String, Object>) value;
    }

    private static int rank(Object value) {
        if (value == null) {
            return 0;
        }
        if (value instanceof Boolean) {
            return (Boolean) value ? 2 : 1;
        }
        return isNumber(value) ? 3 : isString(value) ? 4 : isList(value) ? 5 : 6;
    }

    static int compare(Object a, Object b) {
        if (rank(a) != rank(b)) {
            return Integer.signum(rank(a) - rank(b));
        }
        switch (rank(a)) {
            case 3:
                return ((Long) a).compareTo((Long) b);
            case 4:
                return Integer.signum(((String) a).compareTo((String) b));
            case 5:
                return compareLists(list(a), list(b));
            case 6:
                Map<String, Object> x = new TreeMap<>(map(a));
                Map<String, Object> y = new TreeMap<>(map(b));
                int names = compareLists(new ArrayList<>(x.keySet()), new ArrayList<>(y.keySet()));
                return names != 0 ? names : compareLists(new ArrayList<>(x.values()), new ArrayList<>(y.values()));
            default:
                return 0;
        }
    }

    private static int compareLists(List<Object> a, List<Object> b) {
        for (int k = 0; k < Math.min(a.size(), b.size()); k++) {
            int order = compare(a.get(k), b.get(k));
            if (order != 0) {
                return order;
            }
        }
        return Integer.signum(a.size() - b.size());
    }

    /** As Java has it: maps are equal in any order of their names. */
    static boolean same(Object a, Object b) {
        return Objects.equals(a, b);
    }

    static Object binary(int op, Object a, Object b) throws Refused {
        if (isNumber(a) && isNumber(b)) {
            return numbers(op, BigInteger.valueOf((Long) a), BigInteger.valueOf((Long) b));
        }
        if (op == 0) {
            return plus(a, b);
        }
        if (op == 1 && isList(a) && isList(b)) {
            return list(a).stream().filter(e -> !list(b).contains(e)).collect(Collectors.toList());
        }
        if (op == 2 && isMap(a) && isMap(b)) {
            return merged(map(a), map(b));
        }
        if (op == 2 && (isString(a) && isNumber(b) || isNumber(a) && isString(b))) {
            return repeated((String) (isString(a) ? a : b), (Long) (isString(a) ? b : a));
        }
        if (op == 3 && isString(a) && isString(b)) {
            return pieces((String) a, (String) b);
        }
        throw new Refused(TYPE);
    }

    private static Object numbers(int op, BigInteger a, BigInteger b) throws Refused {
        if (op >= 3 && b.signum() == 0) {
            throw new Refused(ZERO);
        }
        BigInteger c = op == 0 ? a.add(b) : op == 1 ? a.subtract(b) : op == 2 ? a.multiply(b) : op == 3 ? a.divide(b) : a.remainder(b);
        if (c.abs().compareTo(GREATEST) > 0) {
            throw new Refused(RANGE);
        }
        return c.longValueExact();
    }

    private static Object plus(Object a, Object b) throws Refused {
        if (a == null || b == null) {
            return a == null ? b : a;
        }
        if (isString(a) && isString(b)) {
            return (String) a + b;
        }
        if (isList(a) && isList(b)) {
            List<Object> both = new ArrayList<>(list(a));
            both.addAll(list(b));
            return both;
        }
        if (isMap(a) && isMap(b)) {
            Map<String, Object> both = new LinkedHashMap<>(map(a));
            both.putAll(map(b));
            return both;
        }
        throw new Refused(TYPE);
    }

    private static Object merged(Map<String, Object> a, Map<String, Object> b) {
        Map<String, Object> both = new LinkedHashMap<>(a);
        b.forEach((name, value) -> {
            boolean deep = isMap(value) && isMap(both.get(name));
            both.put(name, deep ? merged(map(both.get(name)), map(value)) : value);
        });
        return both;
    }

    private static Object repeated(String text, long times) throws Refused {
        if (times < 1) {
            return null;
        }
        if (!text.isEmpty() && times > 4096) {
            throw new Refused(LIMIT);
        }
        return text.isEmpty() ? "" : text.repeat((int) times);
    }

    private static Object pieces(String text, String between) {
        List<Object> pieces = new ArrayList<>();
        if (between.isEmpty()) {
            text.chars().forEach(c -> pieces.add(String.valueOf((char) c)));
        } else if (!text.isEmpty()) {
            String rest = text;
            for (int at = rest.indexOf(between); at >= 0; at = rest.indexOf(between)) {
                pieces.add(rest.substring(0, at));
                rest = rest.substring(at + between.length());
            }
            pieces.add(rest);
        }
        return pieces;
    }

    private static Refused type() {
        return new Refused(TYPE);
    }

    static Object one(int f, Object a) throws Refused {
        switch (f) {
            case 0:
                return a == null || a.equals(false);
            case 1:
                return length(a);
            case 2:
            case 3:
                return keys(a, f == 2);
            case 4:
                return isString(a) ? a : printed(a);
            case 5:
                return toNumber(a);
            case 6:
                return printed(a);
            case 7:
                return fromJson(a);
            case 8:
                if (!isList(a)) {
                    throw type();
                }
                List<Object> sorted = new ArrayList<>(list(a));
                sorted.sort(Oracle::compare);
                return sorted;
            case 9:
                return reversed(a);
            case 10:
                return text(a).chars().mapToObj(c -> (Object) (long) c).collect(Collectors.toList());
            case 11:
                return implode(a);
            case 12:
                return text(a).toLowerCase(java.util.Locale.ROOT);
            default:
                return text(a).toUpperCase(java.util.Locale.ROOT);
        }
    }

    private static String text(Object a) throws Refused {
        if (!isString(a)) {
            throw type();
        }
        return (String) a;
    }

    private static Object length(Object a) throws Refused {
        if (a instanceof Boolean) {
            throw type();
        }
        return isNumber(a) ? Math.abs((Long) a) : isString(a) ? ((String) a).length() : (long) inside(a).size();
    }

    private static Object keys(Object a, boolean sorted) throws Refused {
        List<Object> keys = new ArrayList<>();
        if (isList(a)) {
            for (int k = 0; k < list(a).size(); k++) {
                keys.add((long) k);
            }
        } else if (isMap(a)) {
            keys.addAll(sorted ? new TreeMap<>(map(a)).keySet() : map(a).keySet());
        } else {
            throw type();
        }
        return keys;
    }

    private static Object toNumber(Object a) throws Refused {
        if (isNumber(a)) {
            return a;
        }
        if (!text(a).matches("-?(0|[1-9][0-9]*)") || new BigInteger(text(a)).abs().compareTo(GREATEST) > 0) {
            throw new Refused(NUMBER);
        }
        return Long.parseLong(text(a));
    }

    private static Object fromJson(Object a) throws Refused {
        OracleReader reader = new OracleReader(text(a));
        if (reader.place() >= 0) {
            throw new Refused(JSON);
        }
        return reader.value();
    }

    private static Object reversed(Object a) throws Refused {
        if (a == null) {
            return new ArrayList<>();
        }
        if (isString(a)) {
            return new StringBuilder((String) a).reverse().toString();
        }
        if (!isList(a)) {
            throw type();
        }
        List<Object> turned = new ArrayList<>(list(a));
        Collections.reverse(turned);
        return turned;
    }

    private static Object implode(Object a) throws Refused {
        if (!isList(a) || !list(a).stream().allMatch(Oracle::isNumber)) {
            throw type();
        }
        if (!list(a).stream().allMatch(e -> (Long) e >= 0 && (Long) e <= 127)) {
            throw new Refused(RANGE);
        }
        return list(a).stream().map(e -> String.valueOf((char) (long) (Long) e)).collect(Collectors.joining());
    }

    static Object two(int f, Object a, Object x) throws Refused {
        boolean strings = isString(a) && isString(x);
        switch (f) {
            case 0:
                if (isMap(a) && isString(x)) {
                    return map(a).containsKey(x);
                }
                if (isList(a) && isNumber(x)) {
                    return (Long) x >= 0 && (Long) x < list(a).size();
                }
                throw type();
            case 1:
                if (kindOf(a) != kindOf(x)) {
                    throw type();
                }
                return contains(a, x);
            case 2:
                return joined(a, x);
            case 3:
                return strings && text(a).startsWith(text(x)) ? text(a).substring(text(x).length()) : a;
            case 4:
                return strings && text(a).endsWith(text(x)) ? text(a).substring(0, text(a).length() - text(x).length()) : a;
            case 5:
                return text(a).startsWith(text(x));
            case 6:
                return text(a).endsWith(text(x));
            case 7:
                return indices(a, x);
            case 8:
                if (!isList(a) || !isNumber(x)) {
                    throw type();
                }
                if ((Long) x < 0) {
                    throw new Refused(RANGE);
                }
                return flat(list(a), (Long) x);
            default:
                return at(a, x);
        }
    }

    private static int kindOf(Object value) {
        return value instanceof Boolean ? 1 : rank(value);
    }

    private static boolean contains(Object a, Object x) {
        if (isString(a) && isString(x)) {
            return ((String) a).contains((String) x);
        }
        if (isList(a) && isList(x)) {
            return list(x).stream().allMatch(e -> list(a).stream().anyMatch(in -> contains(in, e)));
        }
        if (isMap(a) && isMap(x)) {
            return map(x).entrySet().stream().allMatch(e -> map(a).containsKey(e.getKey()) && contains(map(a).get(e.getKey()), e.getValue()));
        }
        return same(a, x);
    }

    private static Object joined(Object a, Object x) throws Refused {
        if (!isList(a) || !isString(x) || list(a).stream().anyMatch(e -> isList(e) || isMap(e))) {
            throw type();
        }
        return list(a).stream().map(e -> e == null ? "" : e.toString()).collect(Collectors.joining((String) x));
    }

    private static Object indices(Object a, Object x) throws Refused {
        List<Object> found = new ArrayList<>();
        if (a == null || isList(a) && List.of().equals(x) || isString(a) && "".equals(x)) {
            return null;
        }
        if (isString(a) && isString(x)) {
            for (int at = text(a).indexOf(text(x)); at >= 0; at = text(a).indexOf(text(x), at + 1)) {
                found.add((long) at);
            }
            return found;
        }
        if (!isList(a)) {
            throw type();
        }
        List<Object> sought = isList(x) ? list(x) : Collections.singletonList(x);
        for (int k = 0; k + sought.size() <= list(a).size(); k++) {
            if (list(a).subList(k, k + sought.size()).equals(sought)) {
                found.add((long) k);
            }
        }
        return found;
    }

    private static Object flat(List<Object> a, long deep) {
        List<Object> out = new ArrayList<>();
        for (Object e : a) {
            if (isList(e) && deep > 0) {
                out.addAll(list(flat(list(e), deep - 1)));
            } else {
                out.add(e);
            }
        }
        return out;
    }

    private static Object at(Object a, Object x) throws Refused {
        if (isMap(a) && isString(x)) {
            return map(a).get(x);
        }
        if (isList(a) && isNumber(x)) {
            long index = (Long) x < 0 ? list(a).size() + (Long) x : (Long) x;
            return index >= 0 && index < list(a).size() ? list(a).get((int) index) : null;
        }
        if (isList(a) && isList(x)) {
            return indices(a, x);
        }
        if (a == null && (x == null || isNumber(x) || isString(x))) {
            return null;
        }
        throw type();
    }

    static Object sort(int f, Object a, Object keys) throws Refused {
        if (!isList(a) || !isList(keys) || list(a).size() != list(keys).size()) {
            throw type();
        }
        Map<Object, List<Object>> groups = new TreeMap<>(Oracle::compare);
        for (int k = 0; k < list(a).size(); k++) {
            groups.computeIfAbsent(list(keys).get(k), key -> new ArrayList<>()).add(list(a).get(k));
        }
        List<List<Object>> sorted = new ArrayList<>(groups.values());
        switch (f) {
            case 0:
                return sorted.stream().flatMap(List::stream).collect(Collectors.toCollection(ArrayList::new));
            case 1:
                return sorted;
            case 2:
                return sorted.stream().map(group -> group.get(0)).collect(Collectors.toCollection(ArrayList::new));
            case 3:
                return sorted.isEmpty() ? null : sorted.get(0).get(0);
            default:
                List<Object> last = sorted.isEmpty() ? Collections.singletonList(null) : sorted.get(sorted.size() - 1);
                return last.get(last.size() - 1);
        }
    }
}
