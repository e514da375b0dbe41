/** Promise 4: process at its edges. */
public final class Edge04Process {
    public static void main(String[] args) {
        Due.holds("A place of table 2 (value 0 or 1)", () -> taken(2, 15, 1));
        Due.holds("or 4 (value 0 .. 65535) of the slave becomes the value.", () -> taken(4, 7, 65535));
        Due.holds("False when there is no such slave", Edge04Process::noSuchSlave);
        Due.holds("or place", Edge04Process::noSuchPlace);
        Due.holds("the table is not 2 or 4", Edge04Process::noSuchTable);
        Due.holds("or the value is not as said.", Edge04Process::noSuchValue);
        Due.end();
    }

    private static void dueRefused(int slave, int table, int address, int value) {
        Twins.dueRefused("process(" + slave + ", " + table + ", " + address + ", " + value + ")",
            x -> !x.process(slave, table, address, value));
    }

    private static void taken(int table, int lastPlace, int most) {
        for (int slave : new int[] {1, 6}) {
            for (int address : new int[] {0, lastPlace}) {
                SerialPlant x = new SerialPlant();
                for (int value : new int[] {most, most, 0, 1, 0}) {
                    String call = "process(" + slave + ", " + table + ", " + address + ", " + value + ")";
                    Due.yes(call, x.process(slave, table, address, value));
                    Due.is("cell after " + call, x.cell(slave, table, address), value);
                }
            }
        }
    }

    private static void noSuchSlave() {
        for (int slave : new int[] {Integer.MIN_VALUE, -1, 0, 7, Integer.MAX_VALUE}) {
            dueRefused(slave, 2, 0, 1);
            dueRefused(slave, 4, 0, 77);
        }
    }

    private static void noSuchPlace() {
        for (int address : new int[] {Integer.MIN_VALUE, -1, 16, 17, Integer.MAX_VALUE}) {
            dueRefused(1, 2, address, 1);
        }
        for (int address : new int[] {Integer.MIN_VALUE, -1, 8, 9, 15, Integer.MAX_VALUE}) {
            dueRefused(1, 4, address, 77);
        }
    }

    private static void noSuchTable() {
        for (int table : new int[] {Integer.MIN_VALUE, -2, 0, 1, 3, 5, 6, Integer.MAX_VALUE}) {
            dueRefused(1, table, 0, 1);
            dueRefused(6, table, 7, 0);
        }
    }

    private static void noSuchValue() {
        for (int value : new int[] {Integer.MIN_VALUE, -1, 2, 3, 65280, Integer.MAX_VALUE}) {
            dueRefused(2, 2, 0, value);
            dueRefused(2, 2, 15, value);
        }
        for (int value : new int[] {Integer.MIN_VALUE, -1, 65536, 65537, Integer.MAX_VALUE}) {
            dueRefused(1, 4, 3, value);
            dueRefused(2, 4, 7, value);
        }
    }
}
