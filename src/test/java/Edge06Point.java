/** Promise 6: point at its edges. */
public final class Edge06Point {
    public static void main(String[] args) {
        Due.holds("Makes a point: its number.", Edge06Point::edgesThatAreTaken);
        Due.holds("NONE when the slave is not attached", Edge06Point::notAttached);
        Due.holds("the table is not 3 or 4", Edge06Point::noSuchTable);
        Due.holds("the address is not 0 .. 7", Edge06Point::noSuchAddress);
        Due.holds("or there are four.", Edge06Point::fourAlready);
        Due.end();
    }

    private static void dueRefused(Twins.Setting setting, int slave, int table, int address) {
        Twins.dueRefused("point(" + slave + ", " + table + ", " + address + ")", setting,
            x -> x.point(slave, table, address) == -1);
    }

    private static void edgesThatAreTaken() {
        for (int slave : new int[] {1, 6}) {
            SerialPlant x = new SerialPlant();
            x.attach(slave, 0, 1);
            int number = 0;
            for (int table = 3; table <= 4; table++) {
                for (int address : new int[] {0, 7}) {
                    Due.is("point(" + slave + ", " + table + ", " + address + ")", x.point(slave, table, address), number);
                    number++;
                }
            }
            Plant.ticks(x, 8);
            Plant.dueFrame(x, 0, false, slave, 3, 0, 0, 0, 1);
            x.tick();
            Plant.dueFrame(x, 0, false, slave, 3, 0, 7, 0, 1);
            x.tick();
            Plant.dueFrame(x, 0, false, slave, 4, 0, 0, 0, 1);
            x.tick();
            Plant.dueFrame(x, 0, false, slave, 4, 0, 7, 0, 1);
        }
    }

    private static void notAttached() {
        for (int slave = 1; slave <= 6; slave++) {
            dueRefused(Twins.Setting.NEW, slave, 3, 0);
        }
        for (int slave : new int[] {Integer.MIN_VALUE, -1, 0, 5, 6, 7, Integer.MAX_VALUE}) {
            dueRefused(Twins.Setting.BUSY, slave, 3, 0);
            dueRefused(Twins.Setting.BUSY, slave, 4, 7);
        }
    }

    private static void noSuchTable() {
        for (int table : new int[] {Integer.MIN_VALUE, -3, 0, 1, 2, 5, 6, Integer.MAX_VALUE}) {
            dueRefused(Twins.Setting.BUSY, 1, table, 0);
            dueRefused(Twins.Setting.BUSY, 2, table, 7);
        }
    }

    private static void noSuchAddress() {
        for (int address : new int[] {Integer.MIN_VALUE, -1, 8, 9, 15, 65535, Integer.MAX_VALUE}) {
            dueRefused(Twins.Setting.BUSY, 1, 3, address);
            dueRefused(Twins.Setting.BUSY, 1, 4, address);
        }
    }

    private static void fourAlready() {
        for (int slave = 1; slave <= 6; slave++) {
            dueRefused(Twins.Setting.FULL, slave, 3, 0);
            dueRefused(Twins.Setting.FULL, slave, 4, 7);
        }
        // Refused ones are not counted: four can be made after them, and not a fifth.
        SerialPlant x = Plant.withSlaves(0);
        for (int number = 0; number < 4; number++) {
            Due.none("point(3, 3, 0)", x.point(3, 3, 0));
            Due.none("point(1, 2, 0)", x.point(1, 2, 0));
            Due.none("point(1, 3, 8)", x.point(1, 3, 8));
            Due.is("point(1, 3, 0)", x.point(1, 3, 0), number);
        }
        Due.none("point(1, 3, 0), a fifth", x.point(1, 3, 0));
        Due.none("point(2, 4, 7), a fifth", x.point(2, 4, 7));
    }
}
