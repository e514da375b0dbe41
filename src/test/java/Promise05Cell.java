/** Promise 5: cell. */
public final class Promise05Cell {
    public static void main(String[] args) {
        tellsWhatStandsInEachTable();
        answersNoneElsewhere();
        Due.end();
    }

    private static void tellsWhatStandsInEachTable() {
        SerialPlant x = Plant.withSlaves(0);
        x.request(1, 15, 0, 16, 0xA5C3);
        x.request(1, 16, 0, 4, 0xFFFF_0003_0002_0001L);
        x.request(1, 16, 4, 4, 0x0008_0007_0006_0005L);
        Plant.ticks(x, 3);
        for (int k = 0; k < 16; k++) {
            x.process(1, 2, k, 0x1234 >> k & 1);
        }
        for (int k = 0; k < 8; k++) {
            x.process(1, 4, k, 100 + k);
        }
        int[] holdings = {1, 2, 3, 65535, 5, 6, 7, 8};
        for (int k = 0; k < 16; k++) {
            Due.is("cell(1, 1, " + k + ")", x.cell(1, 1, k), 0xA5C3 >> k & 1);
            Due.is("cell(1, 2, " + k + ")", x.cell(1, 2, k), 0x1234 >> k & 1);
        }
        for (int k = 0; k < 8; k++) {
            Due.is("cell(1, 3, " + k + ")", x.cell(1, 3, k), holdings[k]);
            Due.is("cell(1, 4, " + k + ")", x.cell(1, 4, k), 100 + k);
        }
        Due.is("cell(2, 4, 0) of another slave", x.cell(2, 4, 0), 0);
        Due.is("cell(6, 3, 7) of a slave that is not attached", x.cell(6, 3, 7), 0);
    }

    private static void answersNoneElsewhere() {
        int[][] wrong = {
            {0, 1, 0}, {7, 1, 0}, {-1, 1, 0}, {Integer.MIN_VALUE, 1, 0}, {Integer.MAX_VALUE, 1, 0},
            {1, 0, 0}, {1, 5, 0}, {1, -1, 0}, {1, Integer.MIN_VALUE, 0}, {1, Integer.MAX_VALUE, 0},
            {1, 1, -1}, {1, 1, 16}, {1, 2, -1}, {1, 2, 16}, {1, 3, -1}, {1, 3, 8}, {1, 4, -1}, {1, 4, 8},
            {1, 1, Integer.MIN_VALUE}, {1, 4, Integer.MAX_VALUE},
        };
        SerialPlant x = new SerialPlant();
        for (int[] w : wrong) {
            Due.none("cell(" + w[0] + ", " + w[1] + ", " + w[2] + ")", x.cell(w[0], w[1], w[2]));
        }
    }
}
