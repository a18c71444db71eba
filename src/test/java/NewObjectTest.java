/** Promise 1: a new object. */
public final class NewObjectTest {
    public static void main(String[] args) {
        for (int r = 0; r < 8; r++) {
            Bench.due("register " + r + " of a new object", new Bench().shown(r), "null");
        }
        ValueBench bench = new ValueBench();
        Bench.due("bytes of the tape of a new object", bench.count(0), 0);
        Bench.due("bytes of the result of a new object", bench.count(1), 0);
        Bench.due("place of a new object", bench.count(2), -1);
        Bench.due("reason of a new object", bench.count(3), 0);
        objectsShareNothing();
        Bench.finish();
    }

    private static void objectsShareNothing() {
        Bench one = new Bench();
        Bench other = new Bench();
        one.with(0, "[1,2]").shown(0);
        other.tape("x");
        Bench.due("register of another object", other.shown(0), "null");
        Bench.due("tape of another object", one.bench.count(0), 0);
    }
}
