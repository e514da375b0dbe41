/** Promise 4: process. */
public final class Promise04Process {
    public static void main(String[] args) {
        changesOnePlace();
        takesTheEdgesOfTheValues();
        refusesWrongArguments();
        isSeenByTheNextRead();
        Due.end();
    }

    private static void changesOnePlace() {
        for (int slave = 1; slave <= 6; slave++) {
            for (int table = 2; table <= 4; table += 2) {
                int places = table == 2 ? 16 : 8;
                for (int address = 0; address < places; address++) {
                    SerialPlant x = new SerialPlant();
                    Due.yes("process(" + slave + ", " + table + ", " + address + ", 1)", x.process(slave, table, address, 1));
                    dueOneCell(x, slave, table, address);
                }
            }
        }
    }

    private static void dueOneCell(SerialPlant x, int slave, int table, int address) {
        for (int s = 1; s <= 6; s++) {
            for (int t = 1; t <= 4; t++) {
                for (int a = 0; a < (t <= 2 ? 16 : 8); a++) {
                    boolean changed = s == slave && t == table && a == address;
                    Due.is("cell(" + s + ", " + t + ", " + a + ")", x.cell(s, t, a), changed ? 1 : 0);
                }
            }
        }
    }

    private static void takesTheEdgesOfTheValues() {
        SerialPlant x = new SerialPlant();
        Due.yes("process(1, 4, 0, 65535)", x.process(1, 4, 0, 65535));
        Due.is("cell(1, 4, 0)", x.cell(1, 4, 0), 65535);
        Due.yes("process(1, 4, 0, 0)", x.process(1, 4, 0, 0));
        Due.is("cell(1, 4, 0)", x.cell(1, 4, 0), 0);
        Due.yes("process(1, 2, 0, 1)", x.process(1, 2, 0, 1));
        Due.yes("process(1, 2, 0, 0)", x.process(1, 2, 0, 0));
        Due.is("cell(1, 2, 0)", x.cell(1, 2, 0), 0);
    }

    private static void refusesWrongArguments() {
        int[][] wrong = {
            {0, 4, 0, 1}, {7, 4, 0, 1}, {-1, 2, 0, 1}, {Integer.MIN_VALUE, 2, 0, 1}, {Integer.MAX_VALUE, 2, 0, 1},
            {1, 0, 0, 1}, {1, 1, 0, 1}, {1, 3, 0, 1}, {1, 5, 0, 1}, {1, -2, 0, 1}, {1, Integer.MAX_VALUE, 0, 1},
            {1, 2, -1, 1}, {1, 2, 16, 1}, {1, 4, -1, 1}, {1, 4, 8, 1}, {1, 4, Integer.MIN_VALUE, 1},
            {1, 2, Integer.MAX_VALUE, 1}, {1, 2, 0, 2}, {1, 2, 0, -1}, {1, 2, 0, 65280}, {1, 4, 0, 65536},
            {1, 4, 0, -1}, {1, 4, 0, Integer.MIN_VALUE}, {1, 4, 0, Integer.MAX_VALUE},
        };
        SerialPlant x = new SerialPlant();
        x.process(1, 4, 0, 40);
        for (int[] w : wrong) {
            Due.no("process(" + w[0] + ", " + w[1] + ", " + w[2] + ", " + w[3] + ")", x.process(w[0], w[1], w[2], w[3]));
        }
        Due.is("cell(1, 4, 0)", x.cell(1, 4, 0), 40);
        Due.is("cell(1, 2, 0)", x.cell(1, 2, 0), 0);
        Due.is("cell(1, 1, 0)", x.cell(1, 1, 0), 0);
        Due.is("cell(1, 3, 0)", x.cell(1, 3, 0), 0);
    }

    private static void isSeenByTheNextRead() {
        SerialPlant x = Plant.withSlaves(0);
        x.process(1, 4, 5, 512);
        x.process(1, 2, 4, 1);
        x.request(1, 4, 4, 3, 0);
        x.request(1, 2, 3, 2, 0);
        Plant.ticks(x, 2);
        Plant.dueReply(x, 0, 1, 0, 512L << 16);
        Plant.dueReply(x, 1, 1, 0, 2);
    }
}
