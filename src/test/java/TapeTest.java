/** Promises 2 and 3: feed and end. */
public final class TapeTest {
    public static void main(String[] args) {
        bytesComeHighestFirst();
        fullTape();
        ends();
        Bench.finish();
    }

    private static void bytesComeHighestFirst() {
        Bench x = new Bench();
        // "0123456789abcdefgh" in quotes.
        Bench.due("feed", x.bench.feed(0x22303132, 0x33343536, 0x37383961, 0x62636465, 0x66676822), 20);
        Bench.due("read of what was fed", x.bench.read(0), 20);
        Bench.due("what was fed", x.shown(0), "\"0123456789abcdefgh\"");
        Bench.due("feed of negative ints", x.bench.feed(-1, -2, Integer.MIN_VALUE, 0, -5), 20);
        Bench.due("feed behind that", x.bench.feed(0, 0, 0, 0, 0), 40);
        Bench.due("read of a byte 255", x.outcome(() -> x.bench.read(0)), Bench.BROKEN);
        Bench.due("place of a byte 255", x.bench.count(2), 0);
    }

    private static void fullTape() {
        Bench x = new Bench();
        for (int k = 1; k <= 204; k++) {
            Bench.due("feed " + k, x.bench.feed(0, 0, 0, 0, 0), 20 * k);
        }
        Bench.due("feed beyond 4096", x.outcome(() -> x.bench.feed(0, 0, 0, 0, 0)), Bench.LIMIT);
        Bench.due("tape after a feed beyond 4096", x.bench.count(0), 4080);
        x.bench.end(4077);
        Bench.due("feed to 4097", x.outcome(() -> x.bench.feed(0, 0, 0, 0, 0)), Bench.LIMIT);
        x.bench.end(4076);
        Bench.due("feed to 4096", x.bench.feed(0, 0, 0, 0, 0), 4096);
        Bench.due("end of a full tape", x.bench.end(4096), 4096);
        Bench.due("feed of a full tape", x.outcome(() -> x.bench.feed(1, 2, 3, 4, 5)), Bench.LIMIT);
        Bench.due("full tape", x.bench.count(0), 4096);
    }

    private static void ends() {
        Bench x = new Bench();
        Bench.due("end(0) of an empty tape", x.bench.end(0), 0);
        Bench.due("end(1) of an empty tape", x.outcome(() -> x.bench.end(1)), Bench.ARGUMENT);
        Bench.due("end(-1) of an empty tape", x.outcome(() -> x.bench.end(-1)), Bench.ARGUMENT);
        x.bench.feed(0x31323334, 0x35363738, 0, 0, 0);
        Bench.due("end(21)", x.outcome(() -> x.bench.end(21)), Bench.ARGUMENT);
        Bench.due("end(-1)", x.outcome(() -> x.bench.end(-1)), Bench.ARGUMENT);
        Bench.due("end(least)", x.outcome(() -> x.bench.end(Integer.MIN_VALUE)), Bench.ARGUMENT);
        Bench.due("end(greatest)", x.outcome(() -> x.bench.end(Integer.MAX_VALUE)), Bench.ARGUMENT);
        Bench.due("tape after ends out of range", x.bench.count(0), 20);
        Bench.due("end(20)", x.bench.end(20), 20);
        Bench.due("end(5)", x.bench.end(5), 5);
        Bench.due("end(6) of 5", x.outcome(() -> x.bench.end(6)), Bench.ARGUMENT);
        Bench.due("end(3)", x.bench.end(3), 3);
        Bench.due("feed behind the end", x.bench.feed(0x39000000, 0, 0, 0, 0), 23);
        x.bench.end(4);
        x.bench.read(0);
        Bench.due("what the tape kept", x.shown(0), "1239");
    }
}
