/** Promise 11: sort. */
public final class SortTest {
    private static final int SORTED = 0;
    private static final int GROUPS = 1;
    private static final int FIRSTS = 2;
    private static final int LEAST = 3;
    private static final int GREATEST = 4;

    public static void main(String[] args) {
        String a = "[\"a\",\"b\",\"c\",\"d\",\"e\",\"f\"]";
        String keys = "[2,1,3,1,3,2]";
        Bench.dueSort(SORTED, a, keys, "[\"b\",\"d\",\"a\",\"f\",\"c\",\"e\"]");
        Bench.dueSort(GROUPS, a, keys, "[[\"b\",\"d\"],[\"a\",\"f\"],[\"c\",\"e\"]]");
        Bench.dueSort(FIRSTS, a, keys, "[\"b\",\"a\",\"c\"]");
        Bench.dueSort(LEAST, a, keys, "\"b\"");
        Bench.dueSort(GREATEST, a, keys, "\"e\"");
        allKinds();
        empty();
        wrongTypes();
        limits();
        outOfRange();
        sameRegisters();
        Bench.finish();
    }

    private static void allKinds() {
        String a = "[{\"n\":0},[1],2,3,4,5,6,7]";
        String keys = "[{\"b\":1,\"a\":2},[],\"\",-1,true,null,{\"a\":2,\"b\":1},[]]";
        Bench.dueSort(SORTED, a, keys, "[5,4,3,2,[1],7,{\"n\":0},6]");
        Bench.dueSort(GROUPS, a, keys, "[[5],[4],[3],[2],[[1],7],[{\"n\":0},6]]");
        Bench.dueSort(FIRSTS, a, keys, "[5,4,3,2,[1],{\"n\":0}]");
        Bench.dueSort(LEAST, a, keys, "5");
        Bench.dueSort(GREATEST, a, keys, "6");
        String same = Bench.array("null", 5);
        Bench.dueSort(SORTED, "[5,4,3,2,1]", same, "[5,4,3,2,1]");
        Bench.dueSort(GROUPS, "[5,4,3,2,1]", same, "[[5,4,3,2,1]]");
        Bench.dueSort(FIRSTS, "[5,4,3,2,1]", same, "[5]");
        Bench.dueSort(LEAST, "[5,4,3,2,1]", same, "5");
        Bench.dueSort(GREATEST, "[5,4,3,2,1]", same, "1");
    }

    private static void empty() {
        for (int f = SORTED; f <= FIRSTS; f++) {
            Bench.dueSort(f, "[]", "[]", "[]");
        }
        Bench.dueSort(LEAST, "[]", "[]", "null");
        Bench.dueSort(GREATEST, "[]", "[]", "null");
    }

    private static void wrongTypes() {
        for (int f = SORTED; f <= GREATEST; f++) {
            Bench.dueSort(f, "[1]", "[]", Bench.TYPE);
            Bench.dueSort(f, "[]", "[1]", Bench.TYPE);
            Bench.dueSort(f, "[1,2]", "[1,2,3]", Bench.TYPE);
            for (String other : new String[] {"null", "true", "false", "1", "\"a\"", "{}", "{\"a\":1}"}) {
                Bench.dueSort(f, other, "[1]", Bench.TYPE);
                Bench.dueSort(f, "[1]", other, Bench.TYPE);
                Bench.dueSort(f, other, "[]", Bench.TYPE);
                Bench.dueSort(f, other, other, Bench.TYPE);
            }
        }
    }

    private static void limits() {
        // Groups of one each take two bytes more for each element: 1023 of "0" print in 4 * 1023 + 1.
        StringBuilder keys = new StringBuilder("[0");
        StringBuilder groups = new StringBuilder("[[0]");
        for (int k = 1; k < 1000; k++) {
            keys.append(",").append(k);
            groups.append(",[0]");
        }
        Bench.dueSort(GROUPS, Bench.array("0", 1000), keys + "]", groups + "]");
        Bench.dueSort(GROUPS, Bench.array("10", 1000), keys + "]", Bench.LIMIT);
        Bench.dueSort(SORTED, Bench.array("0", 2047), Bench.array("0", 2047), Bench.array("0", 2047));
    }

    private static void outOfRange() {
        int[][] calls = {{-1, 0, 0, 0}, {8, 0, 0, 0}, {0, -1, 0, 0}, {0, 5, 0, 0}, {0, 0, -1, 0}, {0, 0, 8, 0},
            {0, 0, 0, -1}, {0, 0, 0, 8}, {0, Integer.MAX_VALUE, 0, 0}};
        for (int[] call : calls) {
            Bench x = new Bench();
            Bench.due("sort" + java.util.Arrays.toString(call), x.outcome(() -> {
                x.bench.sort(call[0], call[1], call[2], call[3]);
                return null;
            }), Bench.ARGUMENT);
            Bench.due("reason after a number out of range", x.bench.count(3), 0);
        }
    }

    private static void sameRegisters() {
        Bench x = new Bench().with(3, "[3,1,2,1]");
        x.bench.sort(3, GROUPS, 3, 3);
        Bench.due("groups of a register by itself into itself", x.shown(3), "[[1,1],[2],[3]]");
    }
}
