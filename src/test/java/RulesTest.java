import java.lang.reflect.Field;
import java.lang.reflect.Method;
import java.lang.reflect.Modifier;
import java.util.ArrayList;
import java.util.HashMap;
import java.util.HashSet;
import java.util.List;
import java.util.Map;
import java.util.Set;

/** Rules of LANGUAGE.md that a compiled class can be held to: 2, 4, 5, 6, 10 and 11; FaceTest has rule 1. */
public final class RulesTest {
    private static final int MOST_CLASSES = 12;
    private static final int MOST_FIELDS = 20;
    private static final int MOST_PARAMETERS = 7;
    private static final int DEEPEST_CALLS = 8;

    private static final String[] LIBRARY = {
        "java/lang/Object\\.<init>.*",
        "java/lang/String\\.(length|charAt|isEmpty|equals|substring|toCharArray)\\(.*",
        "java/lang/(Math|Integer|Long)\\.(compare|max|min|abs|bitCount|floorDiv|floorMod)\\([IJ]+\\)[IJ]",
        "java/lang/System\\.arraycopy\\(.*",
        "java/lang/(IllegalArgument|IndexOutOfBounds|Arithmetic|UnsupportedOperation)Exception\\.<init>\\(.*"};

    private static final Map<String, Set<String>> CALLS = new HashMap<>();
    private static final Map<String, Set<String>> REACHED = new HashMap<>();

    public static void main(String[] args) {
        List<Class<?>> classes = new ArrayList<>(List.of(ValueBench.class.getDeclaredClasses()));
        classes.add(ValueBench.class);
        Bench.due("rule 11: at most twelve classes: " + classes.size(), classes.size() <= MOST_CLASSES, true);
        for (Class<?> type : classes) {
            CALLS.putAll(new ClassFile(type).calls);
            Bench.due("rule 2: no classes within " + type, type == ValueBench.class || type.getDeclaredClasses().length == 0, true);
            dueFields(type);
            dueParameters(type);
        }
        CALLS.forEach((method, called) -> called.forEach(other -> dueCall(method, other)));
        for (Method method : ValueBench.class.getDeclaredMethods()) {
            if (Modifier.isPublic(method.getModifiers())) {
                dueDepth(method.getName());
            }
        }
        Bench.finish();
    }

    private static void dueFields(Class<?> type) {
        int own = 0;
        for (Field field : type.getDeclaredFields()) {
            boolean isStatic = Modifier.isStatic(field.getModifiers());
            own += isStatic ? 0 : 1;
            Bench.due("rule 5: " + field + " is final", !isStatic || Modifier.isFinal(field.getModifiers()), true);
        }
        Bench.due("rule 11: at most twenty fields in " + type + ": " + own, own <= MOST_FIELDS, true);
    }

    private static void dueParameters(Class<?> type) {
        for (Method method : type.getDeclaredMethods()) {
            Bench.due("rule 11: at most seven parameters: " + method, method.getParameterCount() <= MOST_PARAMETERS, true);
        }
    }

    private static void dueCall(String method, String called) {
        boolean listed = CALLS.containsKey(called);
        for (String known : LIBRARY) {
            listed = listed || called.matches(known);
        }
        Bench.due("rules 2, 4, 6, 10: what " + method + " calls is own or listed: " + called, listed, true);
    }

    private static void dueDepth(String name) {
        for (String method : CALLS.keySet()) {
            if (method.startsWith("ValueBench." + name + "(")) {
                int depth = depth(method);
                Bench.due("rule 11: " + name + " has calls at most eight deep: " + depth, depth <= DEEPEST_CALLS, true);
            }
        }
    }

    /** The longest way down from a method, itself and the library's methods counted, methods of one recursion once. */
    private static int depth(String method) {
        int below = 0;
        for (String level : recursion(method)) {
            for (String called : CALLS.getOrDefault(level, Set.of())) {
                if (!recursion(method).contains(called)) {
                    below = Math.max(below, depth(called));
                }
            }
        }
        return below + 1;
    }

    /** The methods that call one another with this one, or this one alone. */
    private static Set<String> recursion(String method) {
        Set<String> together = new HashSet<>(Set.of(method));
        for (String other : reached(method)) {
            if (reached(other).contains(method)) {
                together.add(other);
            }
        }
        return together;
    }

    private static Set<String> reached(String method) {
        if (!REACHED.containsKey(method)) {
            Set<String> found = new HashSet<>();
            List<String> next = new ArrayList<>(List.of(method));
            for (int k = 0; k < next.size(); k++) {
                for (String called : CALLS.getOrDefault(next.get(k), Set.of())) {
                    if (found.add(called)) {
                        next.add(called);
                    }
                }
            }
            REACHED.put(method, found);
        }
        return REACHED.get(method);
    }
}
