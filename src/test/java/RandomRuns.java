import java.util.Random;
import java.util.function.BooleanSupplier;
import java.util.function.LongSupplier;

/** All promises: long runs of calls, made by chance from fixed seeds, answer as a second telling of the document. */
public final class RandomRuns {
    private static final int RUNS = 40000;
    private static final int MOST_CALLS = 512;
    /** So many calls are left for the looks at the end of a run. */
    private static final int LAST_LOOKS = 80;

    private final Random random;
    private final SerialPlant plant = new SerialPlant();
    private final PlantModel model = new PlantModel();
    /** How often this run uses arguments that are wrong, and how often a slave is switched or a frame damaged. */
    private final int wrongness;
    private final int trouble;
    /** How often it makes requests, and changes of words that are polled, beside those that all runs make. */
    private final int eagerToAsk;
    private final int eagerToWatch;
    private final String run;
    private int made;

    private RandomRuns(int seed) {
        random = new Random(seed);
        run = "run " + seed;
        wrongness = random.nextInt(3) == 0 ? 20 : 400;
        trouble = random.nextInt(4) == 0 ? 3 : 30;
        eagerToAsk = random.nextInt(3) == 0 ? 3 : 100;
        eagerToWatch = random.nextInt(3) == 0 ? 3 : 100;
    }

    public static void main(String[] args) {
        for (int seed = 0; seed < RUNS; seed++) {
            new RandomRuns(seed).play();
        }
        Due.end();
    }

    private void play() {
        for (int slave = 1; slave <= 6; slave++) {
            if (random.nextInt(5) != 0) {
                attach(slave, random.nextInt(2), random.nextInt(random.nextBoolean() ? 3 : 6));
            }
        }
        while (made < MOST_CALLS - LAST_LOOKS) {
            change();
            if (random.nextInt(eagerToAsk) == 0) {
                request();
            }
            if (random.nextInt(eagerToWatch) == 0) {
                watch();
            }
            if (random.nextInt(6) == 0) {
                look();
            }
        }
        while (made < MOST_CALLS) {
            look();
        }
    }

    private void change() {
        int slave = number(1, 6);
        if (random.nextInt(trouble) == 0) {
            if (random.nextBoolean()) {
                boolean on = random.nextInt(4) != 0;
                same("power", () -> plant.power(slave, on), () -> model.power(slave, on));
            } else {
                int line = number(0, 1);
                boolean answer = random.nextBoolean();
                int bit = number(0, 400);
                same("fault", () -> plant.fault(line, answer, bit), () -> model.fault(line, answer, bit));
            }
        }
        switch (random.nextInt(12)) {
            case 0:
                attach(slave, number(0, 1), number(0, 5));
                break;
            case 1:
                int table = random.nextBoolean() ? 2 : number(1, 4) / 2 * 2;
                int address = number(0, table == 2 ? 15 : 7);
                int value = table == 2 ? number(0, 1) : random.nextInt(4) == 0 ? number(0, 65535) : number(0, 3);
                process(slave, table, address, value);
                break;
            case 2:
                point(slave, number(3, 4), number(0, 7));
                break;
            case 3:
                request();
                break;
            default:
                same("tick", () -> plant.tick(), () -> model.tick());
                break;
        }
    }

    /** The same few places are used, so that points are made of them and their words change. */
    private void watch() {
        int slave = 1 + random.nextInt(6);
        if (random.nextInt(4) == 0) {
            point(slave, 4, slave);
        } else {
            process(slave, 4, slave, random.nextInt(9));
        }
    }

    private void process(int slave, int table, int address, int value) {
        same("process", () -> plant.process(slave, table, address, value),
            () -> model.process(slave, table, address, value));
    }

    private void point(int slave, int table, int address) {
        same("point", () -> plant.point(slave, table, address), () -> model.point(slave, table, address));
    }

    private void attach(int slave, int line, int delay) {
        same("attach", () -> plant.attach(slave, line, delay), () -> model.attach(slave, line, delay));
    }

    private void request() {
        int[] functions = {1, 2, 3, 4, 5, 6, 8, 15, 16, 22};
        int unit = random.nextInt(6) == 0 ? 0 : number(1, random.nextInt(9) == 0 ? 247 : 6);
        int function = random.nextInt(12) == 0 ? number(1, 127) : functions[random.nextInt(functions.length)];
        int address = random.nextInt(12) == 0 ? number(0, 65535) : number(0, random.nextInt(3) == 0 ? 16 : 4);
        int count = number(0, random.nextInt(3) == 0 ? 16 : 5);
        long value = valueFor(function);
        same("request", () -> plant.request(unit, function, address, count, value),
            () -> model.request(unit, function, address, count, value));
    }

    private long valueFor(int function) {
        if (function == 5 && random.nextInt(4) != 0) {
            return random.nextBoolean() ? 65280 : 0;
        }
        return random.nextInt(4) == 0 ? random.nextInt(3) : random.nextLong();
    }

    /** Looks at one thing, or at all of its kind, as far as the calls go. */
    private void look() {
        switch (random.nextInt(8)) {
            case 0:
                lookAtLines();
                break;
            case 1:
                lookAtFrame(number(0, 1), random.nextBoolean());
                break;
            case 2:
                lookAtReply(number(0, 63));
                break;
            case 3:
                lookAtReply(random.nextInt(16));
                break;
            case 4:
                lookAtSample(number(0, 11));
                break;
            case 5:
                lookAtTable(number(1, 6), number(1, 4));
                break;
            case 6:
                int k = number(-1, 40);
                boolean answer = random.nextBoolean();
                int line = number(0, 1);
                same("wire", () -> plant.wire(line, answer, k), () -> model.wire(line, answer, k));
                break;
            default:
                int point = number(0, 3);
                int from = number(0, 200);
                int to = number(0, 400);
                same("samples", () -> plant.samples(point, from, to), () -> model.samples(point, from, to));
                break;
        }
    }

    private void lookAtLines() {
        for (int i = 0; i < 6; i++) {
            int line = i / 3;
            int which = i % 3;
            same("line", () -> plant.line(line, which), () -> model.line(line, which));
        }
        int line = number(0, 1);
        int which = number(0, 2);
        same("line", () -> plant.line(line, which), () -> model.line(line, which));
    }

    private void lookAtFrame(int line, boolean answer) {
        int bytes = model.wire(line, answer, -1);
        for (int i = -1; i <= bytes; i++) {
            int k = i;
            same("wire", () -> plant.wire(line, answer, k), () -> model.wire(line, answer, k));
        }
    }

    private void lookAtReply(int n) {
        for (int i = 0; i < 3; i++) {
            int which = i;
            same("reply", () -> plant.reply(n, which), () -> model.reply(n, which));
        }
        int which = number(0, 2);
        same("reply", () -> plant.reply(n, which), () -> model.reply(n, which));
    }

    private void lookAtSample(int k) {
        for (int i = 0; i < 3; i++) {
            int which = i;
            same("sample", () -> plant.sample(k, which), () -> model.sample(k, which));
        }
        int which = number(0, 2);
        same("sample", () -> plant.sample(k, which), () -> model.sample(k, which));
    }

    private void lookAtTable(int slave, int table) {
        for (int i = -1; i <= (table <= 2 ? 16 : 8); i++) {
            int address = i;
            same("cell", () -> plant.cell(slave, table, address), () -> model.cell(slave, table, address));
        }
    }

    /** A number from low to high, or now and then a wrong one. */
    private int number(int low, int high) {
        if (random.nextInt(wrongness) == 0) {
            int[] wrong = {low - 1, high + 1, -low, -1, random.nextInt(), Integer.MIN_VALUE, Integer.MAX_VALUE};
            return wrong[random.nextInt(wrong.length)];
        }
        return low + random.nextInt(high - low + 1);
    }

    private void same(String call, BooleanSupplier got, BooleanSupplier want) {
        same(call, () -> got.getAsBoolean() ? 1 : 0, () -> want.getAsBoolean() ? 1 : 0);
    }

    private void same(String call, LongSupplier got, LongSupplier want) {
        if (made == MOST_CALLS) {
            return;
        }
        made++;
        long answer = got.getAsLong();
        long due = want.getAsLong();
        if (answer != due) {
            Due.is(run + ", call " + made + ": " + call, answer, due);
            Due.end();
        }
    }
}
