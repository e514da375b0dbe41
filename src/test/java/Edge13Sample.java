/** Promise 13: sample at its edges. */
public final class Edge13Sample {
    public static void main(String[] args) {
        Due.holds("Of stored sample k (0 is the oldest)", Edge13Sample::zeroIsTheOldest);
        Due.holds("0 its T, 1 its point, 2 its word.", Edge13Sample::itsParts);
        Due.holds("NONE when there is none", Edge13Sample::noSuchSample);
        Due.holds("or which is not 0 .. 2.", Edge13Sample::noSuchWhich);
        Due.end();
    }

    private static void zeroIsTheOldest() {
        // Four points, three samples of each: the thirteenth takes the place of the oldest.
        SerialPlant x = Plant.withSlaves(0);
        for (int point = 0; point < 4; point++) {
            x.point(1, 4, point);
        }
        // The polls of 8 are taken at 8 .. 11, and so on: the words change between, at 4, 12 and 20.
        Plant.ticks(x, 4);
        for (int round = 1; round <= 3; round++) {
            for (int point = 0; point < 4; point++) {
                x.process(1, 4, point, 10 * round + point);
            }
            Plant.ticks(x, 8);
        }
        for (int k = 0; k < 12; k++) {
            Plant.dueSample(x, k, 8 * (k / 4 + 1) + k % 4, k % 4, 10 * (k / 4 + 1) + k % 4);
        }
        Due.none("sample(12, 0)", x.sample(12, 0));
        x.process(1, 4, 2, 99);
        Plant.ticks(x, 7);
        Plant.dueSample(x, 0, 9, 1, 11);
        Plant.dueSample(x, 10, 27, 3, 33);
        Plant.dueSample(x, 11, 34, 2, 99);
        Due.none("sample(12, 0)", x.sample(12, 0));
    }

    private static void itsParts() {
        SerialPlant x = Plant.withSlaves(2);
        x.point(1, 3, 0);
        x.point(2, 4, 7);
        x.process(2, 4, 7, 65535);
        Plant.ticks(x, 10);
        Plant.dueSample(x, 0, 10, 0, 0);
        Plant.dueSample(x, 1, 10, 1, 65535);
    }

    private static void noSuchSample() {
        for (int which = 0; which <= 2; which++) {
            int w = which;
            for (int k : new int[] {Integer.MIN_VALUE, -1, 12, 13, 24, Integer.MAX_VALUE}) {
                Twins.dueRefused("sample(" + k + ", " + which + ")", x -> x.sample(k, w) == -1);
            }
            Twins.dueRefused("sample(0, " + which + ")", Twins.Setting.NEW, x -> x.sample(0, w) == -1);
            Twins.dueRefused("sample(2, " + which + ")", Twins.Setting.BUSY, x -> x.sample(2, w) == -1);
        }
        SerialPlant x = Plant.withSlaves(0);
        x.point(1, 4, 0);
        for (int stored = 0; stored < 12; stored++) {
            Due.none("sample(" + stored + ", 0) before it is kept", x.sample(stored, 0));
            x.process(1, 4, 0, stored);
            Plant.ticks(x, 8);
            Due.is("sample(" + stored + ", 0)", x.sample(stored, 0), 8 * (stored + 1));
        }
        Due.none("sample(12, 0)", x.sample(12, 0));
    }

    private static void noSuchWhich() {
        for (int which : new int[] {Integer.MIN_VALUE, -1, 3, 4, Integer.MAX_VALUE}) {
            for (int k : new int[] {0, 1, 11}) {
                Twins.dueRefused("sample(" + k + ", " + which + ")", x -> x.sample(k, which) == -1);
            }
        }
    }
}
