/** Promise 14: samples. */
public final class Promise14Samples {
    public static void main(String[] args) {
        countsBetweenTheEdges();
        tellsPointsApart();
        otherPointsHaveNone();
        countsTheStoredAlone();
        Due.end();
    }

    /** Point 0 has changed at 8, 16, 24, 32 and 40, point 1 at 8 and 40. */
    private static SerialPlant withFiveAndTwo() {
        SerialPlant x = Plant.withSlaves(0);
        x.point(1, 4, 0);
        x.point(2, 4, 0);
        for (int round = 1; round <= 5; round++) {
            x.process(1, 4, 0, round);
            x.process(2, 4, 0, round / 5);
            Plant.ticks(x, 8);
        }
        return x;
    }

    private static void countsBetweenTheEdges() {
        SerialPlant x = withFiveAndTwo();
        int[][] due = {
            {0, 100, 5}, {8, 40, 5}, {9, 40, 4}, {8, 39, 4}, {9, 39, 3}, {16, 16, 1}, {17, 23, 0}, {16, 24, 2},
            {24, 16, 0}, {40, 8, 0}, {41, 100, 0}, {0, 7, 0}, {-5, 8, 1}, {0, 0, 0}, {-9, -1, 0},
            {Integer.MIN_VALUE, Integer.MAX_VALUE, 5}, {Integer.MAX_VALUE, Integer.MIN_VALUE, 0},
        };
        for (int[] d : due) {
            Due.is("samples(0, " + d[0] + ", " + d[1] + ")", x.samples(0, d[0], d[1]), d[2]);
        }
    }

    private static void tellsPointsApart() {
        SerialPlant x = withFiveAndTwo();
        Due.is("samples(1, 0, 100)", x.samples(1, 0, 100), 2);
        Due.is("samples(1, 9, 100)", x.samples(1, 9, 100), 1);
        Due.is("samples(1, 9, 39)", x.samples(1, 9, 39), 0);
    }

    private static void otherPointsHaveNone() {
        SerialPlant x = withFiveAndTwo();
        for (int point : new int[] {2, 3, 4, -1, 64, Integer.MIN_VALUE, Integer.MAX_VALUE}) {
            Due.is("samples(" + point + ", ..)", x.samples(point, Integer.MIN_VALUE, Integer.MAX_VALUE), 0);
        }
        Due.is("samples(0, 0, 100) of a new object", new SerialPlant().samples(0, 0, 100), 0);
    }

    private static void countsTheStoredAlone() {
        SerialPlant x = Plant.withSlaves(0);
        x.point(1, 4, 0);
        for (int round = 1; round <= 15; round++) {
            x.process(1, 4, 0, round);
            Plant.ticks(x, 8);
        }
        Due.is("samples(0, 0, 999)", x.samples(0, 0, 999), 12);
        Due.is("samples(0, 0, 31)", x.samples(0, 0, 31), 0);
        Due.is("samples(0, 0, 32)", x.samples(0, 0, 32), 1);
        Due.is("samples(0, 120, 120)", x.samples(0, 120, 120), 1);
    }
}
