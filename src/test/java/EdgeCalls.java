import java.util.function.ToLongFunction;

/** "What it is": the edge of the 512 calls. Every kind of call is good as the 512th. */
public final class EdgeCalls {
    private static final int MOST_CALLS = 512;

    public static void main(String[] args) {
        Due.holds("An object is used for at most 512 calls after it has been made", EdgeCalls::everyLastCallIsGood);
        Due.holds("An object is used for at most 512 calls after it has been made", EdgeCalls::allTicks);
        Due.holds("An object is used for at most 512 calls after it has been made", EdgeCalls::allRequestsThatCanBeMade);
        Due.end();
    }

    /** Slave 1 answers at once and has a point; slave 2 is attached. 511 calls were made, and T is 503. */
    private static Watched after511Calls() {
        Watched x = new Watched();
        x.attach(1, 0, 0);
        x.attach(2, 1, 2);
        x.process(1, 4, 7, 65535);
        x.point(1, 4, 7);
        x.request(1, 4, 7, 1, 0);
        x.tick();
        x.request(1, 6, 3, 0, 12);
        x.tick();
        x.request(2, 3, 0, 1, 0);
        x.fault(1, false, 5);
        while (x.told() < MOST_CALLS - 1) {
            x.tick();
        }
        return x;
    }

    private static void dueLast(ToLongFunction<Watched> call, long want) {
        Watched x = after511Calls();
        long got = call.applyAsLong(x);
        Due.is("number of calls", x.told(), MOST_CALLS);
        Due.is(x.callAt(MOST_CALLS - 1) + " as the 512th call", got, want);
    }

    private static void everyLastCallIsGood() {
        dueLast(x -> x.attach(3, 1, 5) ? 1 : 0, 1);
        dueLast(x -> x.attach(1, 1, 5) ? 1 : 0, 0);
        dueLast(x -> x.power(6, false) ? 1 : 0, 1);
        dueLast(x -> x.power(7, false) ? 1 : 0, 0);
        dueLast(x -> x.process(1, 2, 15, 1) ? 1 : 0, 1);
        dueLast(x -> x.process(1, 3, 0, 1) ? 1 : 0, 0);
        dueLast(x -> x.cell(1, 3, 3), 12);
        dueLast(x -> x.cell(1, 3, 8), -1);
        dueLast(x -> x.point(2, 3, 0), 1);
        dueLast(x -> x.point(3, 3, 0), -1);
        dueLast(x -> x.request(2, 3, 0, 1, 0), 3);
        dueLast(x -> x.request(248, 3, 0, 1, 0), -1);
        dueLast(x -> x.fault(1, false, 400) ? 1 : 0, 1);
        dueLast(x -> x.fault(2, false, 400) ? 1 : 0, 0);
        dueLast(Watched::tick, 504);
        dueLast(x -> x.reply(0, 2), 65535);
        dueLast(x -> x.reply(2, 0), 1);
        dueLast(x -> x.reply(3, 0), -1);
        dueLast(x -> x.line(0, 0), 0);
        dueLast(x -> x.line(0, 2), -1);
        dueLast(x -> x.wire(0, true, 3), 255);
        dueLast(x -> x.wire(0, true, 7), -1);
        dueLast(x -> x.sample(0, 0), 8);
        dueLast(x -> x.sample(1, 0), -1);
        dueLast(x -> x.samples(0, 8, 8), 1);
    }

    private static void allTicks() {
        Watched x = new Watched();
        for (int t = 1; t <= MOST_CALLS; t++) {
            Due.is("tick " + t, x.tick(), t);
        }
    }

    /** 64 requests, each with its attempts, and 12 samples: what an object can hold fits in its calls. */
    private static void allRequestsThatCanBeMade() {
        Watched x = new Watched();
        x.attach(1, 0, 0);
        x.attach(2, 1, 0);
        x.point(2, 4, 0);
        for (int n = 0; n < 64; n++) {
            Due.is("request " + n, x.request(1, 6, n % 8, 0, 1000 + n), n);
            x.process(2, 4, 0, n);
            x.tick();
            x.tick();
        }
        for (int n = 0; n < 64; n++) {
            Due.is("reply(" + n + ", 2)", x.reply(n, 2), 1000 + n);
        }
        for (int k = 0; k < 12; k++) {
            Due.is("sample(" + k + ", 0)", x.sample(k, 0), 8 * (k + 5));
            Due.is("sample(" + k + ", 2)", x.sample(k, 2), 4 * (k + 5) - 1);
        }
        Due.is("samples(0, 0, 128)", x.samples(0, 0, 128), 12);
        while (x.told() < MOST_CALLS - 1) {
            x.tick();
        }
        Due.none("request 64", x.request(1, 6, 0, 0, 0));
    }
}
