/** Promise 3: power at its edges. */
public final class Edge03Power {
    public static void main(String[] args) {
        Due.holds("False when there is no such slave.", Edge03Power::noSuchSlave);
        Due.holds("The slave (attached or not; so for process() and cell()) is on, or off.", Edge03Power::attachedOrNot);
        Due.holds("(Off, it keeps its tables and its mode.)", Edge03Power::keepsTablesAndMode);
        Due.end();
    }

    private static void noSuchSlave() {
        for (int slave : new int[] {Integer.MIN_VALUE, -1, 0, 7, 8, Integer.MAX_VALUE}) {
            Twins.dueRefused("power(" + slave + ", false)", x -> !x.power(slave, false));
            Twins.dueRefused("power(" + slave + ", true)", x -> !x.power(slave, true));
        }
    }

    private static void attachedOrNot() {
        for (int slave = 1; slave <= 6; slave++) {
            SerialPlant x = new SerialPlant();
            Due.yes("power(" + slave + ", false)", x.power(slave, false));
            Due.yes("power(" + slave + ", false) again", x.power(slave, false));
            Due.yes("process(" + slave + ", 4, 7, 65535), not attached and off", x.process(slave, 4, 7, 65535));
            Due.is("cell(" + slave + ", 4, 7), not attached and off", x.cell(slave, 4, 7), 65535);
            // Off before it was attached, it is off afterwards; and switched on, it is on.
            x.attach(slave, 0, 0);
            Due.is("cell(" + slave + ", 4, 7), attached", x.cell(slave, 4, 7), 65535);
            x.request(slave, 4, 7, 1, 0);
            Plant.ticks(x, 10);
            Plant.dueReply(x, 0, 2, 11, 0);
            Due.yes("power(" + slave + ", true)", x.power(slave, true));
            Due.yes("power(" + slave + ", true) again", x.power(slave, true));
            x.request(slave, 4, 7, 1, 0);
            x.tick();
            Plant.dueReply(x, 1, 1, 0, 65535);
        }
        // The others stay as they are.
        SerialPlant x = Plant.withSlaves(0);
        x.power(1, false);
        x.request(2, 6, 0, 0, 4);
        x.tick();
        Plant.dueReply(x, 0, 1, 0, 4);
    }

    private static void keepsTablesAndMode() {
        SerialPlant x = Plant.withSlaves(0);
        x.request(1, 6, 7, 0, 65535);
        x.request(1, 5, 15, 0, 65280);
        x.request(1, 8, 4, 0, 0);
        Plant.ticks(x, 12);
        x.process(1, 2, 15, 1);
        x.process(1, 4, 7, 9);
        x.power(1, false);
        x.power(1, true);
        Due.is("cell(1, 3, 7)", x.cell(1, 3, 7), 65535);
        Due.is("cell(1, 1, 15)", x.cell(1, 1, 15), 1);
        Due.is("cell(1, 2, 15)", x.cell(1, 2, 15), 1);
        Due.is("cell(1, 4, 7)", x.cell(1, 4, 7), 9);
        x.request(1, 6, 0, 0, 1);
        Plant.ticks(x, 10);
        Plant.dueReply(x, 3, 2, 11, 0);
        Due.is("cell(1, 3, 0), still in listen-only mode", x.cell(1, 3, 0), 0);
        // And not in the mode, it is not in it afterwards.
        SerialPlant y = Plant.withSlaves(0);
        y.power(1, false);
        y.power(1, true);
        y.request(1, 8, 0, 0, 6);
        y.tick();
        Plant.dueReply(y, 0, 1, 0, 6);
    }
}
