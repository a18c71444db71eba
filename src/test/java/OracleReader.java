import java.math.BigInteger;
import java.util.ArrayDeque;
import java.util.ArrayList;
import java.util.Deque;
import java.util.LinkedHashMap;
import java.util.List;
import java.util.Map;

/** Reads JSON byte by byte, with a pile of what is open instead of recursion: the oracle for read and fromjson. */
final class OracleReader {
    /** What may come next, but for blanks. */
    private enum Due { VALUE, VALUE_OR_CLOSE, NAME, NAME_OR_CLOSE, COLON, COMMA_OR_CLOSE, END }

    private final String text;
    private final Deque<Object> open = new ArrayDeque<>();
    private final Deque<String> names = new ArrayDeque<>();
    private Due due = Due.VALUE;
    private Object whole = null;
    private int at = 0;
    private int place = -1;

    OracleReader(String text) {
        this.text = text;
        while (place < 0 && at < text.length()) {
            step();
        }
        if (place < 0 && due != Due.END) {
            place = text.length();
        }
    }

    int place() {
        return place;
    }

    Object value() {
        return whole;
    }

    private void step() {
        char c = text.charAt(at);
        if (" \t\n\r".indexOf(c) >= 0) {
            at++;
            return;
        }
        switch (due) {
            case VALUE_OR_CLOSE:
                if (c == ']') {
                    close();
                    break;
                }
                value(c);
                break;
            case VALUE:
                value(c);
                break;
            case NAME_OR_CLOSE:
                if (c == '}') {
                    close();
                    break;
                }
                name(c);
                break;
            case NAME:
                name(c);
                break;
            case COLON:
                take(c == ':', Due.VALUE);
                break;
            case COMMA_OR_CLOSE:
                boolean object = open.peek() instanceof Map;
                if (c == (object ? '}' : ']')) {
                    close();
                    break;
                }
                take(c == ',', object ? Due.NAME : Due.VALUE);
                break;
            default:
                place = at;
        }
    }

    private void take(boolean good, Due next) {
        place = good ? place : at;
        at++;
        due = next;
    }

    private void close() {
        at++;
        give(open.pop());
    }

    /** A value is whole: it goes into what is open. */
    private void give(Object value) {
        Object into = open.peek();
        if (into == null) {
            whole = value;
            due = Due.END;
        } else if (into instanceof Map) {
            Oracle.map(into).put(names.pop(), value);
            due = Due.COMMA_OR_CLOSE;
        } else {
            Oracle.list(into).add(value);
            due = Due.COMMA_OR_CLOSE;
        }
    }

    private void value(char c) {
        if (c == '[' || c == '{') {
            take(open.size() < 40, c == '[' ? Due.VALUE_OR_CLOSE : Due.NAME_OR_CLOSE);
            open.push(c == '[' ? new ArrayList<>() : new LinkedHashMap<String, Object>());
        } else if (c == '"') {
            String string = string();
            if (place < 0) {
                give(string);
            }
        } else if (c == '-' || Character.digit(c, 10) >= 0) {
            number();
        } else {
            word();
        }
    }

    private void name(char c) {
        if (c != '"') {
            place = at;
            return;
        }
        int start = at;
        String name = string();
        if (place >= 0) {
            return;
        }
        if (Oracle.map(open.peek()).containsKey(name)) {
            place = start;
        }
        names.push(name);
        due = Due.COLON;
    }

    private void number() {
        int end = at + 1;
        if (text.charAt(at) == '-') {
            if (end == text.length() || "0123456789".indexOf(text.charAt(end)) < 0) {
                place = end;
                return;
            }
            end++;
        }
        if (text.charAt(end - 1) != '0') {
            while (end < text.length() && "0123456789".indexOf(text.charAt(end)) >= 0) {
                end++;
            }
        }
        BigInteger number = new BigInteger(text.substring(at, end));
        if (number.abs().bitLength() > 53) {
            place = at;
            return;
        }
        at = end;
        give(number.longValueExact());
    }

    private void word() {
        for (Map.Entry<String, Object> entry : words().entrySet()) {
            String word = entry.getKey();
            if (text.startsWith(word, at)) {
                at += word.length();
                give(entry.getValue());
                return;
            }
        }
        int longest = 0;
        for (String word : words().keySet()) {
            for (int many = 1; many < word.length(); many++) {
                longest = text.startsWith(word.substring(0, many), at) ? Math.max(longest, many) : longest;
            }
        }
        place = at + longest;
    }

    private static Map<String, Object> words() {
        Map<String, Object> words = new LinkedHashMap<>();
        words.put("null", null);
        words.put("false", false);
        words.put("true", true);
        return words;
    }

    private String string() {
        StringBuilder out = new StringBuilder();
        at++;
        while (at < text.length()) {
            char c = text.charAt(at);
            if (c == '"') {
                at++;
                return out.toString();
            }
            if (c < 32 || c > 126) {
                place = at;
                return null;
            }
            if (c != '\\') {
                out.append(c);
                at++;
                continue;
            }
            int code = escape();
            if (place >= 0) {
                return null;
            }
            out.append((char) code);
        }
        place = text.length();
        return null;
    }

    private int escape() {
        List<Integer> codes = List.of(34, 92, 47, 8, 12, 10, 13, 9);
        if (at + 1 == text.length()) {
            place = text.length();
            return 0;
        }
        int simple = "\"\\/bfnrt".indexOf(text.charAt(at + 1));
        if (simple >= 0) {
            at += 2;
            return codes.get(simple);
        }
        if (text.charAt(at + 1) != 'u') {
            place = at + 1;
            return 0;
        }
        for (int k = at + 2; k < at + 6; k++) {
            if (k == text.length() || "0123456789abcdefABCDEF".indexOf(text.charAt(k)) < 0) {
                place = k;
                return 0;
            }
        }
        int code = Integer.parseInt(text.substring(at + 2, at + 6), 16);
        place = code > 127 ? at : place;
        at += 6;
        return code;
    }
}
