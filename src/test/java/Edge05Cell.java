/** Promise 5: cell at its edges. */
public final class Edge05Cell {
    public static void main(String[] args) {
        Due.holds("What stands at a place of a table 1 .. 4 of the slave", Edge05Cell::edgesOfTheTables);
        Due.holds("NONE when there is none.", Edge05Cell::noSlave);
        Due.holds("NONE when there is none.", Edge05Cell::noTable);
        Due.holds("NONE when there is none.", Edge05Cell::noPlace);
        Due.end();
    }

    private static void dueRefused(int slave, int table, int address) {
        Twins.dueRefused("cell(" + slave + ", " + table + ", " + address + ")", x -> x.cell(slave, table, address) == -1);
    }

    private static void edgesOfTheTables() {
        SerialPlant x = new SerialPlant();
        x.attach(1, 0, 0);
        x.attach(6, 0, 0);
        for (int slave : new int[] {1, 6}) {
            x.request(slave, 15, 0, 1, 1);
            x.request(slave, 6, 7, 0, 65535);
            Plant.ticks(x, 2);
            x.process(slave, 2, 15, 1);
            x.process(slave, 4, 0, 65535);
        }
        for (int slave : new int[] {1, 6}) {
            int[][] due = {{1, 0, 1}, {1, 15, 0}, {2, 0, 0}, {2, 15, 1}, {3, 0, 0}, {3, 7, 65535}, {4, 0, 65535}, {4, 7, 0}};
            for (int[] d : due) {
                Due.is("cell(" + slave + ", " + d[0] + ", " + d[1] + ")", x.cell(slave, d[0], d[1]), d[2]);
            }
        }
    }

    private static void noSlave() {
        for (int slave : new int[] {Integer.MIN_VALUE, -1, 0, 7, Integer.MAX_VALUE}) {
            dueRefused(slave, 1, 0);
            dueRefused(slave, 4, 7);
        }
    }

    private static void noTable() {
        for (int table : new int[] {Integer.MIN_VALUE, -1, 0, 5, Integer.MAX_VALUE}) {
            dueRefused(1, table, 0);
            dueRefused(6, table, 7);
        }
    }

    private static void noPlace() {
        for (int table = 1; table <= 4; table++) {
            int places = table <= 2 ? 16 : 8;
            for (int address : new int[] {Integer.MIN_VALUE, -1, places, places + 1, Integer.MAX_VALUE}) {
                dueRefused(1, table, address);
            }
        }
    }
}
