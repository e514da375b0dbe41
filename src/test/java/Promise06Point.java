/** Promise 6: point. */
public final class Promise06Point {
    public static void main(String[] args) {
        numbersFourPoints();
        refusesWrongArguments();
        anOffSlaveMayHaveAPoint();
        thePollReadsThePlace();
        samePlaceTwiceIsTwoPoints();
        Due.end();
    }

    private static void numbersFourPoints() {
        SerialPlant x = Plant.withSlaves(0);
        Due.is("point(1, 3, 0)", x.point(1, 3, 0), 0);
        Due.is("point(1, 3, 7)", x.point(1, 3, 7), 1);
        Due.is("point(2, 4, 0)", x.point(2, 4, 0), 2);
        Due.is("point(2, 4, 7)", x.point(2, 4, 7), 3);
        Due.none("point(2, 4, 6), a fifth", x.point(2, 4, 6));
    }

    private static void refusesWrongArguments() {
        int[][] wrong = {
            {3, 3, 0}, {0, 3, 0}, {7, 3, 0}, {-1, 3, 0}, {Integer.MIN_VALUE, 3, 0}, {Integer.MAX_VALUE, 3, 0},
            {1, 0, 0}, {1, 1, 0}, {1, 2, 0}, {1, 5, 0}, {1, -3, 0}, {1, Integer.MAX_VALUE, 0},
            {1, 3, -1}, {1, 3, 8}, {1, 4, 8}, {1, 4, -1}, {1, 3, Integer.MIN_VALUE}, {1, 4, Integer.MAX_VALUE},
        };
        SerialPlant x = Plant.withSlaves(0);
        for (int[] w : wrong) {
            Due.none("point(" + w[0] + ", " + w[1] + ", " + w[2] + ")", x.point(w[0], w[1], w[2]));
        }
        Due.is("point(1, 3, 0)", x.point(1, 3, 0), 0);
    }

    private static void anOffSlaveMayHaveAPoint() {
        SerialPlant x = Plant.withSlaves(0);
        x.power(1, false);
        Due.is("point(1, 4, 4)", x.point(1, 4, 4), 0);
    }

    private static void thePollReadsThePlace() {
        SerialPlant x = Plant.withSlaves(0);
        x.request(1, 6, 5, 0, 35);
        x.process(1, 4, 5, 45);
        x.point(1, 3, 5);
        Plant.ticks(x, 8);
        Plant.dueFrame(x, 0, false, 1, 3, 0, 5, 0, 1);
        Plant.dueFrame(x, 0, true, 1, 3, 2, 0, 35);
        x.point(1, 4, 5);
        Plant.ticks(x, 9);
        Plant.dueFrame(x, 0, false, 1, 4, 0, 5, 0, 1);
        Plant.dueFrame(x, 0, true, 1, 4, 2, 0, 45);
        Plant.dueSample(x, 0, 8, 0, 35);
        Plant.dueSample(x, 1, 17, 1, 45);
    }

    private static void samePlaceTwiceIsTwoPoints() {
        SerialPlant x = Plant.withSlaves(0);
        Due.is("point(1, 4, 2)", x.point(1, 4, 2), 0);
        Due.is("point(1, 4, 2) again", x.point(1, 4, 2), 1);
        Plant.ticks(x, 9);
        Plant.dueSample(x, 0, 8, 0, 0);
        Plant.dueSample(x, 1, 9, 1, 0);
    }
}
