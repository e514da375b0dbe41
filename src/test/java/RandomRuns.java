import java.util.Random;

/** All promises: long runs of calls, made by chance from fixed seeds, answer as a second telling of the document. */
public final class RandomRuns {
    private static final int RUNS = 4000;
    private static final int CALLS = 512;

    private final Random random;
    private final SerialPlant plant = new SerialPlant();
    private final PlantModel model = new PlantModel();
    /** How often this run uses arguments that are wrong, and how often a slave is switched or a frame damaged. */
    private final int wrongness;
    private final int trouble;
    private final String run;

    private RandomRuns(int seed) {
        random = new Random(seed);
        run = "run " + seed;
        wrongness = random.nextInt(3) == 0 ? 20 : 400;
        trouble = random.nextInt(4) == 0 ? 3 : 30;
    }

    public static void main(String[] args) {
        for (int seed = 0; seed < RUNS; seed++) {
            new RandomRuns(seed).play();
        }
        Due.end();
    }

    private void play() {
        for (int slave = 1; slave <= 6; slave++) {
            if (random.nextInt(5) != 0) {
                attach(slave, random.nextInt(2), random.nextInt(random.nextBoolean() ? 3 : 6));
            }
        }
        for (int call = 0; call < CALLS; call++) {
            change();
            look();
        }
        lookAtAll();
    }

    private void change() {
        int slave = number(1, 6);
        if (random.nextInt(trouble) == 0) {
            if (random.nextBoolean()) {
                boolean on = random.nextInt(4) != 0;
                same("power", plant.power(slave, on), model.power(slave, on));
            } else {
                int line = number(0, 1);
                boolean answer = random.nextBoolean();
                int bit = number(0, 400);
                same("fault", plant.fault(line, answer, bit), model.fault(line, answer, bit));
            }
        }
        switch (random.nextInt(12)) {
            case 0:
                attach(slave, number(0, 1), number(0, 5));
                break;
            case 1:
                int table = random.nextBoolean() ? 2 : number(1, 4) / 2 * 2;
                int address = number(0, table == 2 ? 15 : 7);
                int value = table == 2 ? number(0, 1) : random.nextInt(4) == 0 ? number(0, 65535) : number(0, 3);
                same("process", plant.process(slave, table, address, value), model.process(slave, table, address, value));
                break;
            case 2:
                int kind = number(3, 4);
                int place = number(0, 7);
                same("point", plant.point(slave, kind, place), model.point(slave, kind, place));
                break;
            case 3:
                request();
                break;
            default:
                same("tick", plant.tick(), model.tick());
                break;
        }
    }

    private void attach(int slave, int line, int delay) {
        same("attach", plant.attach(slave, line, delay), model.attach(slave, line, delay));
    }

    private void request() {
        int[] functions = {1, 2, 3, 4, 5, 6, 8, 15, 16, 22};
        int unit = random.nextInt(6) == 0 ? 0 : number(1, random.nextInt(9) == 0 ? 247 : 6);
        int function = random.nextInt(12) == 0 ? number(1, 127) : functions[random.nextInt(functions.length)];
        int address = random.nextInt(12) == 0 ? number(0, 65535) : number(0, random.nextInt(3) == 0 ? 16 : 4);
        int count = number(0, random.nextInt(3) == 0 ? 16 : 5);
        long value = random.nextInt(4) == 0 ? random.nextInt(3) : random.nextLong();
        if (function == 5 && random.nextInt(4) != 0) {
            value = random.nextBoolean() ? 65280 : 0;
        }
        same("request", plant.request(unit, function, address, count, value),
            model.request(unit, function, address, count, value));
    }

    private void look() {
        for (int line = 0; line < 2; line++) {
            for (int which = 0; which <= 2; which++) {
                same("line", plant.line(line, which), model.line(line, which));
            }
            for (int k = -2; k < 42; k++) {
                same("wire", plant.wire(line, false, k), model.wire(line, false, k));
                same("wire", plant.wire(line, true, k), model.wire(line, true, k));
            }
        }
        int n = number(0, 64);
        int which = number(0, 2);
        same("reply", plant.reply(n, which), model.reply(n, which));
        int line = number(0, 1);
        int k = number(-1, 14);
        same("line", plant.line(line, which), model.line(line, which));
        same("wire", plant.wire(line, true, k), model.wire(line, true, k));
        same("sample", plant.sample(k, which), model.sample(k, which));
        int from = number(0, 400);
        int to = number(0, 400);
        same("samples", plant.samples(k, from, to), model.samples(k, from, to));
        int slave = number(1, 6);
        int table = number(1, 4);
        int address = number(0, 15);
        same("cell", plant.cell(slave, table, address), model.cell(slave, table, address));
    }

    private void lookAtAll() {
        for (int which = -1; which <= 3; which++) {
            for (int n = -1; n <= 64; n++) {
                same("reply", plant.reply(n, which), model.reply(n, which));
                same("sample", plant.sample(n, which), model.sample(n, which));
            }
        }
        for (int slave = 0; slave <= 7; slave++) {
            for (int table = 0; table <= 5; table++) {
                for (int address = -1; address <= 16; address++) {
                    same("cell", plant.cell(slave, table, address), model.cell(slave, table, address));
                }
            }
        }
        for (int point = -1; point <= 4; point++) {
            same("samples", plant.samples(point, 0, 999), model.samples(point, 0, 999));
        }
    }

    /** A number from low to high, or now and then a wrong one. */
    private int number(int low, int high) {
        if (random.nextInt(wrongness) == 0) {
            int[] wrong = {low - 1, high + 1, -low, -1, random.nextInt(), Integer.MIN_VALUE, Integer.MAX_VALUE};
            return wrong[random.nextInt(wrong.length)];
        }
        return low + random.nextInt(high - low + 1);
    }

    private void same(String call, boolean got, boolean want) {
        same(call, got ? 1 : 0, want ? 1 : 0);
    }

    private void same(String call, long got, long want) {
        if (got != want) {
            Due.is(run + ": " + call, got, want);
            Due.end();
        }
    }
}
