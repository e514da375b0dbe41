import java.util.ArrayList;
import java.util.List;
import java.util.Random;
import java.util.function.Predicate;
import java.util.function.ToLongFunction;

/**
 * "A call that answers false or NONE changes nothing": runs of calls by chance, from fixed seeds, are made on
 * two objects; one of them also gets calls between that are refused, and the answers stay those of the other.
 */
public final class EdgeRefusals {
    private static final int RUNS = 3000;
    private static final int MOST_CALLS = 512;
    private static final int COMMON_CALLS = 380;
    private static final List<Predicate<Watched>> REFUSED = refusedInAnyState();

    public static void main(String[] args) {
        Due.holds("A call that answers false or NONE changes nothing.", EdgeRefusals::runsWithRefusedCalls);
        Due.end();
    }

    private static void runsWithRefusedCalls() {
        for (int seed = 0; seed < RUNS; seed++) {
            play(seed);
        }
    }

    private static void play(int seed) {
        Random random = new Random(seed);
        Watched plain = new Watched();
        Watched tried = new Watched();
        for (int made = 0; made < COMMON_CALLS; made++) {
            int callsLeft = MOST_CALLS - tried.told() - (COMMON_CALLS - made);
            if (callsLeft > 0 && random.nextInt(3) == 0) {
                boolean refused = REFUSED.get(random.nextInt(REFUSED.size())).test(tried);
                Due.yes("run " + seed + ": " + tried.callAt(tried.told() - 1) + " is refused: it", refused);
            }
            ToLongFunction<Watched> call = made < 12 ? attachment(random) : anyCall(random);
            long want = call.applyAsLong(plain);
            long got = call.applyAsLong(tried);
            if (got != want) {
                Due.is("run " + seed + ", call " + made + ", " + plain.callAt(made), got, want);
                return;
            }
        }
    }

    private static ToLongFunction<Watched> attachment(Random random) {
        int slave = 1 + random.nextInt(6);
        int line = random.nextInt(2);
        int delay = random.nextInt(4);
        return x -> x.attach(slave, line, delay) ? 1 : 0;
    }

    /** A call with good arguments, though some of them are refused for other reasons. */
    private static ToLongFunction<Watched> anyCall(Random random) {
        int slave = 1 + random.nextInt(6);
        int line = random.nextInt(2);
        int place = random.nextInt(8);
        int which = random.nextInt(3);
        int word = random.nextInt(random.nextBoolean() ? 4 : 65536);
        boolean flag = random.nextBoolean();
        switch (random.nextInt(16)) {
            case 0:
            case 1:
                int[] functions = {1, 2, 3, 4, 5, 6, 8, 15, 16, 22, 7};
                int unit = random.nextInt(8);
                int function = functions[random.nextInt(functions.length)];
                int count = random.nextInt(6);
                long value = flag ? 65280 : random.nextLong();
                return x -> x.request(unit, function, place, count, value);
            case 2:
                return x -> x.point(slave, flag ? 3 : 4, place);
            case 3:
                return x -> x.process(slave, 4, place, word) ? 1 : 0;
            case 4:
                return x -> x.cell(slave, 1 + word % 4, place);
            case 5:
                return x -> x.reply(word % 32, which);
            case 6:
                return x -> x.line(line, which);
            case 7:
                return x -> x.wire(line, flag, place - 1);
            case 8:
                return x -> x.sample(word % 12, which);
            case 9:
                return x -> x.samples(word % 4, place, 300);
            case 10:
                return x -> x.power(slave, place != 0) ? 1 : 0;
            case 11:
                return word % 2 == 0 ? Watched::tick : x -> x.fault(line, flag, word % 401) ? 1 : 0;
            default:
                return Watched::tick;
        }
    }

    /** Calls with one argument that is just or far too small or too large, so that no state takes them. */
    private static List<Predicate<Watched>> refusedInAnyState() {
        List<Predicate<Watched>> calls = new ArrayList<>();
        for (int slave : new int[] {Integer.MIN_VALUE, -1, 0, 7, Integer.MAX_VALUE}) {
            calls.add(x -> !x.attach(slave, 0, 0));
            calls.add(x -> !x.power(slave, false));
            calls.add(x -> !x.process(slave, 4, 0, 9));
            calls.add(x -> x.cell(slave, 3, 0) == -1);
            calls.add(x -> x.point(slave, 3, 0) == -1);
        }
        for (int line : new int[] {Integer.MIN_VALUE, -1, 2, Integer.MAX_VALUE}) {
            calls.add(x -> !x.attach(5, line, 1));
            calls.add(x -> !x.fault(line, true, 0));
            calls.add(x -> !x.fault(line, false, 0));
            calls.add(x -> x.line(line, 0) == -1);
            calls.add(x -> x.wire(line, true, -1) == -1);
        }
        for (int which : new int[] {Integer.MIN_VALUE, -1, 3, Integer.MAX_VALUE}) {
            calls.add(x -> x.reply(0, which) == -1);
            calls.add(x -> x.line(0, which) == -1);
            calls.add(x -> x.sample(0, which) == -1);
        }
        for (int table : new int[] {Integer.MIN_VALUE, 0, 5, Integer.MAX_VALUE}) {
            calls.add(x -> !x.process(1, table, 0, 1));
            calls.add(x -> x.cell(1, table, 0) == -1);
            calls.add(x -> x.point(1, table, 0) == -1);
        }
        for (int number : new int[] {Integer.MIN_VALUE, -2, 65536, Integer.MAX_VALUE}) {
            calls.add(x -> !x.attach(6, 1, number));
            calls.add(x -> !x.process(1, 2, number, 1));
            calls.add(x -> !x.process(1, 4, 0, number));
            calls.add(x -> x.cell(1, 1, number) == -1);
            calls.add(x -> x.point(1, 4, number) == -1);
            calls.add(x -> x.request(number, 6, 0, 0, 9) == -1);
            calls.add(x -> x.request(1, number, 0, 0, 9) == -1);
            calls.add(x -> x.request(0, 6, number, 0, 9) == -1);
            calls.add(x -> x.request(9, 6, 0, number, 9) == -1);
            calls.add(x -> !x.fault(0, false, number));
            calls.add(x -> !x.fault(1, true, number));
            calls.add(x -> x.reply(number, 0) == -1);
            calls.add(x -> x.wire(0, false, number) == -1);
            calls.add(x -> x.sample(number, 0) == -1);
        }
        calls.add(x -> !x.attach(6, 0, 6));
        calls.add(x -> !x.process(1, 1, 0, 1));
        calls.add(x -> !x.process(1, 3, 0, 1));
        calls.add(x -> !x.process(1, 2, 0, 2));
        calls.add(x -> !x.process(1, 4, 8, 2));
        calls.add(x -> x.point(1, 2, 0) == -1);
        calls.add(x -> x.point(1, 3, 8) == -1);
        calls.add(x -> x.request(248, 6, 0, 0, 9) == -1);
        calls.add(x -> x.request(1, 128, 0, 0, 9) == -1);
        calls.add(x -> x.request(1, 0, 0, 0, 9) == -1);
        calls.add(x -> x.request(1, 6, 0, 17, 9) == -1);
        calls.add(x -> !x.fault(0, true, 401));
        return calls;
    }
}
