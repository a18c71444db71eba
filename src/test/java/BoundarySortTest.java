/** The boundary cases of promise 11, a test for each sentence. */
public final class BoundarySortTest {
    private static final int SORTED = 0;
    private static final int GROUPS = 1;
    private static final int FIRSTS = 2;
    private static final int LEAST = 3;
    private static final int GREATEST = 4;
    private static final String[] EMPTY = {"[]", "[]", "[]", "null", "null"};
    private static final String[] SINGLE = {"[7]", "[[7]]", "[7]", "7", "7"};
    private static final String LETTERS = "[\"a\",\"b\",\"c\",\"d\",\"e\"]";

    public static void main(String[] args) {
        Bench.sentence("the ARRAY a with the keys in the ARRAY k (else \"type\")", BoundarySortTest::arrays);
        Bench.sentence("keys, one for each (else \"type\")", BoundarySortTest::oneForEach);
        Bench.sentence("0 sorted", BoundarySortTest::sorted);
        Bench.sentence("1 the groups of the same keys, sorted", BoundarySortTest::groups);
        Bench.sentence("2 the first of each group", BoundarySortTest::firsts);
        Bench.sentence("3 the first with the least", BoundarySortTest::least);
        Bench.sentence("4 the last with the greatest", BoundarySortTest::greatest);
        Bench.sentence("3, 4 (null without)", BoundarySortTest::nullWithout);
        Bench.sentence("by ORDER", BoundarySortTest::byOrder);
        Bench.sentence("stable", BoundarySortTest::stable);
        Bench.sentence("f 0 .. 4", BoundarySortTest::functions);
        Bench.finish();
    }

    private static void arrays() {
        for (int f = SORTED; f <= GREATEST; f++) {
            for (String other : new String[] {"null", "false", "true", "0", "1", "\"\"", "\"a\"", "{}", "{\"a\":1}"}) {
                for (String array : new String[] {"[]", "[1]", other}) {
                    Bench.dueSort(f, other, array, Bench.TYPE);
                    Bench.dueSort(f, array, other, Bench.TYPE);
                }
            }
        }
    }

    private static void oneForEach() {
        for (int f = SORTED; f <= GREATEST; f++) {
            Bench.dueSort(f, "[]", "[]", EMPTY[f]);
            Bench.dueSort(f, "[7]", "[0]", SINGLE[f]);
            Bench.dueSort(f, "[]", "[0]", Bench.TYPE);
            Bench.dueSort(f, "[7]", "[]", Bench.TYPE);
            Bench.dueSort(f, "[7,8]", "[0]", Bench.TYPE);
            Bench.dueSort(f, "[7]", "[0,0]", Bench.TYPE);
            Bench.dueSort(f, "[[7,8]]", "[0,0]", Bench.TYPE);
        }
    }

    private static void sorted() {
        Bench.dueSort(SORTED, "[]", "[]", "[]");
        Bench.dueSort(SORTED, "[7]", "[null]", "[7]");
        Bench.dueSort(SORTED, "[1,2]", "[2,1]", "[2,1]");
        Bench.dueSort(SORTED, LETTERS, "[5,4,3,2,1]", "[\"e\",\"d\",\"c\",\"b\",\"a\"]");
        Bench.dueSort(SORTED, LETTERS, "[1,2,3,4,5]", LETTERS);
    }

    private static void groups() {
        Bench.dueSort(GROUPS, "[]", "[]", "[]");
        Bench.dueSort(GROUPS, "[7]", "[null]", "[[7]]");
        Bench.dueSort(GROUPS, LETTERS, "[0,0,0,0,0]", "[" + LETTERS + "]");
        Bench.dueSort(GROUPS, LETTERS, "[5,4,3,2,1]", "[[\"e\"],[\"d\"],[\"c\"],[\"b\"],[\"a\"]]");
        Bench.dueSort(GROUPS, LETTERS, "[2,1,2,1,2]", "[[\"b\",\"d\"],[\"a\",\"c\",\"e\"]]");
        Bench.dueSort(GROUPS, "[1,2,3]", "[{\"a\":1,\"b\":2},\"1\",{\"b\":2,\"a\":1}]", "[[2],[1,3]]");
    }

    private static void firsts() {
        Bench.dueSort(FIRSTS, "[]", "[]", "[]");
        Bench.dueSort(FIRSTS, "[[7]]", "[null]", "[[7]]");
        Bench.dueSort(FIRSTS, LETTERS, "[0,0,0,0,0]", "[\"a\"]");
        Bench.dueSort(FIRSTS, LETTERS, "[2,1,2,1,2]", "[\"b\",\"a\"]");
        Bench.dueSort(FIRSTS, LETTERS, "[5,4,3,2,1]", "[\"e\",\"d\",\"c\",\"b\",\"a\"]");
    }

    private static void least() {
        Bench.dueSort(LEAST, "[[7]]", "[0]", "[7]");
        Bench.dueSort(LEAST, LETTERS, "[0,0,0,0,0]", "\"a\"");
        Bench.dueSort(LEAST, LETTERS, "[2,1,2,1,2]", "\"b\"");
        Bench.dueSort(LEAST, LETTERS, "[5,4,3,2,1]", "\"e\"");
        Bench.dueSort(LEAST, LETTERS, "[0,false,null,[],null]", "\"c\"");
    }

    private static void greatest() {
        Bench.dueSort(GREATEST, "[[7]]", "[0]", "[7]");
        Bench.dueSort(GREATEST, LETTERS, "[0,0,0,0,0]", "\"e\"");
        Bench.dueSort(GREATEST, LETTERS, "[1,2,1,2,1]", "\"d\"");
        Bench.dueSort(GREATEST, LETTERS, "[5,4,3,2,1]", "\"a\"");
        Bench.dueSort(GREATEST, LETTERS, "[0,{},\"\",{},[]]", "\"d\"");
    }

    private static void nullWithout() {
        Bench.dueSort(LEAST, "[]", "[]", "null");
        Bench.dueSort(GREATEST, "[]", "[]", "null");
        for (String element : new String[] {"null", "false", "0", "65536", "\"\"", "[]", "{}"}) {
            Bench.dueSort(LEAST, "[" + element + "]", "[1]", element);
            Bench.dueSort(GREATEST, "[" + element + "]", "[1]", element);
        }
    }

    private static void byOrder() {
        String keys = "[{\"\":0},{},[0],[],\"b\",\"ab\",\"\",10,9,-1,true,false,null]";
        Bench.dueSort(SORTED, "[12,11,10,9,8,7,6,5,4,3,2,1,0]", keys, "[0,1,2,3,4,5,6,7,8,9,10,11,12]");
        Bench.dueSort(FIRSTS, "[12,11,10,9,8,7,6,5,4,3,2,1,0]", keys, "[0,1,2,3,4,5,6,7,8,9,10,11,12]");
        Bench.dueSort(LEAST, "[12,11,10,9,8,7,6,5,4,3,2,1,0]", keys, "0");
        Bench.dueSort(GREATEST, "[12,11,10,9,8,7,6,5,4,3,2,1,0]", keys, "12");
    }

    /** All runs of two keys over up to seven elements: those of each key stay as they came. */
    private static void stable() {
        for (int many = 2; many <= 7; many++) {
            for (int bits = 0; bits < 1 << many; bits++) {
                StringBuilder a = new StringBuilder();
                StringBuilder keys = new StringBuilder();
                StringBuilder zeros = new StringBuilder();
                StringBuilder ones = new StringBuilder();
                for (int k = 0; k < many; k++) {
                    a.append(',').append(k);
                    keys.append(',').append(bits >> k & 1);
                    ((bits >> k & 1) == 0 ? zeros : ones).append(',').append(k);
                }
                String due = zeros.append(ones).substring(1);
                Bench.dueSort(SORTED, "[" + a.substring(1) + "]", "[" + keys.substring(1) + "]", "[" + due + "]");
            }
        }
        String most = Bench.array("0", 2047);
        String marked = "[1" + ",0".repeat(2045) + ",2]";
        Bench.dueSort(SORTED, marked, most, marked);
    }

    private static void functions() {
        for (int f : new int[] {-1, 5, 6, Integer.MIN_VALUE, Integer.MAX_VALUE}) {
            Bench.dueSort(f, "[7]", "[0]", Bench.ARGUMENT);
        }
        Bench.dueSort(0, "[7]", "[0]", "[7]");
        Bench.dueSort(4, "[7]", "[0]", "7");
    }
}
