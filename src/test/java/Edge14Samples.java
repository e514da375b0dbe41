/** Promise 14: samples at its edges. */
public final class Edge14Samples {
    public static void main(String[] args) {
        Due.holds("whose T is from .. to.", Edge14Samples::fromAndToAreIn);
        Due.holds("whose T is from .. to.", Edge14Samples::emptyAndWildSpans);
        Due.holds("How many stored samples", Edge14Samples::storedOnesAlone);
        Due.holds("the point has", Edge14Samples::thePointsOwn);
        Due.end();
    }

    /** Point 0 of slave 1 has samples at 8, 16, .. , one for each round. */
    private static SerialPlant withSamples(int rounds) {
        SerialPlant x = Plant.withSlaves(0);
        x.point(1, 4, 0);
        for (int round = 1; round <= rounds; round++) {
            x.process(1, 4, 0, round);
            Plant.ticks(x, 8);
        }
        return x;
    }

    private static void fromAndToAreIn() {
        SerialPlant x = withSamples(3);
        for (int from = 7; from <= 25; from++) {
            for (int to : new int[] {7, 8, 9, 15, 16, 17, 23, 24, 25}) {
                int due = 0;
                for (int t = 8; t <= 24; t += 8) {
                    due += from <= t && t <= to ? 1 : 0;
                }
                Due.is("samples(0, " + from + ", " + to + ")", x.samples(0, from, to), due);
            }
        }
    }

    private static void emptyAndWildSpans() {
        SerialPlant x = withSamples(3);
        int[][] rows = {
            {8, 8, 1}, {24, 24, 1}, {25, 24, 0}, {24, 8, 0}, {16, 15, 0}, {0, 0, 0}, {-1, -1, 0}, {0, 8, 1}, {-8, 8, 1},
            {Integer.MIN_VALUE, Integer.MAX_VALUE, 3}, {Integer.MAX_VALUE, Integer.MIN_VALUE, 0},
            {Integer.MIN_VALUE, Integer.MIN_VALUE, 0}, {Integer.MAX_VALUE, Integer.MAX_VALUE, 0},
            {Integer.MIN_VALUE, 16, 2}, {16, Integer.MAX_VALUE, 2}, {Integer.MIN_VALUE, 7, 0}, {25, Integer.MAX_VALUE, 0},
        };
        for (int[] r : rows) {
            Due.is("samples(0, " + r[0] + ", " + r[1] + ")", x.samples(0, r[0], r[1]), r[2]);
        }
        Due.is("samples(0, 0, 99) of an empty store", new SerialPlant().samples(0, 0, 99), 0);
    }

    private static void storedOnesAlone() {
        for (int rounds = 11; rounds <= 14; rounds++) {
            SerialPlant x = withSamples(rounds);
            int oldest = Math.max(1, rounds - 11);
            Due.is(rounds + " kept: samples(0, 0, 999)", x.samples(0, 0, 999), rounds - oldest + 1);
            Due.is(rounds + " kept: up to the oldest", x.samples(0, 0, 8 * oldest), 1);
            Due.is(rounds + " kept: before the oldest", x.samples(0, 0, 8 * oldest - 1), 0);
            Due.is(rounds + " kept: the latest", x.samples(0, 8 * rounds, 8 * rounds), 1);
            Due.is(rounds + " kept: after the latest", x.samples(0, 8 * rounds + 1, 999), 0);
        }
    }

    private static void thePointsOwn() {
        SerialPlant x = Plant.withSlaves(0);
        for (int point = 0; point < 4; point++) {
            x.point(1 + point / 2, 4, point);
        }
        // The polls of 8 are taken at 8 and 9, and so on: the words change between, at 4, 12 and 20.
        Plant.ticks(x, 4);
        for (int round = 1; round <= 3; round++) {
            for (int point = 0; point < 4; point++) {
                x.process(1 + point / 2, 4, point, Math.min(round, point));
            }
            Plant.ticks(x, 8);
        }
        int[] due = {1, 1, 2, 3};
        for (int point = 0; point < 4; point++) {
            Due.is("samples(" + point + ", 0, 99)", x.samples(point, 0, 99), due[point]);
        }
        for (int point : new int[] {Integer.MIN_VALUE, -1, 4, 5, 64, 65, Integer.MAX_VALUE}) {
            Due.is("samples(" + point + ", 0, 99) of no point", x.samples(point, 0, 99), 0);
        }
        // A look changes nothing: it may be made again.
        Due.is("samples(3, 0, 99) again", x.samples(3, 0, 99), 3);
    }
}
