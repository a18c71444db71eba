/** Promise 13: count. */
public final class CountTest {
    public static void main(String[] args) {
        tapeAndResult();
        places();
        reasons();
        for (int what : new int[] {-1, 4, Integer.MIN_VALUE, Integer.MAX_VALUE}) {
            Bench x = new Bench();
            Bench.due("count(" + what + ")", x.outcome(() -> x.bench.count(what)), Bench.ARGUMENT);
        }
        Bench.finish();
    }

    private static void tapeAndResult() {
        ValueBench bench = new ValueBench();
        bench.feed(0x5b315d00, 0, 0, 0, 0);
        Bench.due("tape after feed", bench.count(0), 20);
        bench.end(3);
        Bench.due("tape after end", bench.count(0), 3);
        bench.print(0);
        Bench.due("tape after print", bench.count(0), 3);
        Bench.due("result after print", bench.count(1), 4);
        bench.read(0);
        Bench.due("tape after read", bench.count(0), 0);
        Bench.due("result after read", bench.count(1), 4);
        bench.print(0);
        Bench.due("result after another print", bench.count(1), 3);
    }

    private static void places() {
        Bench x = new Bench();
        Bench.due("place before", x.bench.count(2), -1);
        x.tape("[1,x]").outcome(() -> x.bench.read(0));
        Bench.due("place of a broken read", x.bench.count(2), 3);
        x.bench.print(0);
        x.outcome(() -> {
            x.bench.one(0, 7, 0);
            return null;
        });
        Bench.due("place after other calls", x.bench.count(2), 3);
        x.outcome(() -> x.bench.read(0));
        Bench.due("place of an empty tape", x.bench.count(2), 0);
        x.with(0, "1");
        Bench.due("place after a whole read", x.bench.count(2), -1);
    }

    private static void reasons() {
        Bench x = new Bench().with(0, "9007199254740991").with(1, "0").with(2, "\"x\"").with(3, "1");
        Bench.due("reason before", x.bench.count(3), 0);
        dueReason(x, () -> x.bench.binary(4, 0, 0, 2), 1);
        dueReason(x, () -> x.bench.binary(4, 0, 0, 3), 2);
        dueReason(x, () -> x.bench.binary(4, 3, 0, 1), 3);
        dueReason(x, () -> x.bench.one(4, 5, 2), 4);
        dueReason(x, () -> x.bench.one(4, 7, 2), 5);
        dueReason(x, () -> x.bench.two(4, 2, 0, 2), 1);
        dueReason(x, () -> x.bench.sort(4, 0, 0, 2), 1);
        dueReason(x, () -> x.bench.binary(4, 4, 0, 1), 3);
        x.bench.binary(4, 0, 1, 1);
        Bench.due("reason after a call that is done", x.bench.count(3), 3);
        x.outcome(() -> x.bench.print(8));
        x.tape("x").outcome(() -> x.bench.read(0));
        x.outcome(() -> {
            x.bench.binary(4, 2, 0, 2);
            return null;
        });
        Bench.due("reason after what is thrown otherwise", x.bench.count(3), 3);
    }

    private static void dueReason(Bench x, Runnable call, int reason) {
        String outcome = x.outcome(() -> {
            call.run();
            return null;
        });
        Bench.due("a call that is refused", outcome, "refused " + reason);
        Bench.due("the register after it", x.shown(4), "null");
    }
}
