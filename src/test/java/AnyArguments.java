import java.util.Random;

/** No call throws, whatever its arguments, even long after the 512th. */
public final class AnyArguments {
    private static final int[] NUMBERS = {
        Integer.MIN_VALUE, -65536, -2, -1, 0, 0, 1, 1, 2, 2, 3, 3, 4, 5, 6, 7, 8, 12, 15, 16, 17, 22, 40, 41, 63, 64,
        127, 128, 247, 400, 401, 65280, 65535, 65536, Integer.MAX_VALUE,
    };

    public static void main(String[] args) {
        for (int seed = 0; seed < 300; seed++) {
            Random random = new Random(seed);
            SerialPlant x = new SerialPlant();
            for (int call = 0; call < 3000; call++) {
                try {
                    call(x, random, random.nextInt(15));
                } catch (RuntimeException e) {
                    Due.yes("seed " + seed + ", call " + call + " threw " + e, false);
                    Due.end();
                }
            }
        }
        Due.end();
    }

    private static int any(Random random) {
        return NUMBERS[random.nextInt(NUMBERS.length)];
    }

    private static void call(SerialPlant x, Random random, int which) {
        switch (which) {
            case 0 -> x.attach(any(random), any(random), any(random));
            case 1 -> x.power(any(random), random.nextInt(8) != 0);
            case 2 -> x.process(any(random), any(random), any(random), any(random));
            case 3 -> x.cell(any(random), any(random), any(random));
            case 4 -> x.point(any(random), any(random), any(random));
            case 5 -> x.request(any(random), any(random), any(random), any(random), random.nextLong());
            case 6 -> x.fault(any(random), random.nextBoolean(), any(random));
            case 7 -> x.reply(any(random), any(random));
            case 8 -> x.line(any(random), any(random));
            case 9 -> x.wire(any(random), random.nextBoolean(), any(random));
            case 10 -> x.sample(any(random), any(random));
            case 11 -> x.samples(any(random), any(random), any(random));
            default -> x.tick();
        }
    }
}
