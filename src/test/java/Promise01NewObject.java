/** Promise 1: in a new object no slave is attached, and there are no points, requests or samples; T is 0. */
public final class Promise01NewObject {
    public static void main(String[] args) {
        noSlaveIsAttached();
        nothingWasMade();
        linesAreIdle();
        tablesAreZero();
        timeIsZero();
        objectsAreApart();
        Due.is("NONE", SerialPlant.NONE, -1);
        Due.end();
    }

    private static void noSlaveIsAttached() {
        SerialPlant x = new SerialPlant();
        for (int slave = 1; slave <= 6; slave++) {
            Due.none("point(" + slave + ", 3, 0)", x.point(slave, 3, 0));
            Due.is("request(" + slave + ", 3, 0, 1, 0)", x.request(slave, 3, 0, 1, 0), slave - 1);
            Due.is("reply(" + (slave - 1) + ", 1)", x.reply(slave - 1, 1), 10);
            Due.yes("attach(" + slave + ", 0, 0)", x.attach(slave, 0, 0));
        }
    }

    private static void nothingWasMade() {
        SerialPlant x = new SerialPlant();
        Due.none("reply(0, 0)", x.reply(0, 0));
        Due.none("sample(0, 0)", x.sample(0, 0));
        for (int point = 0; point < 4; point++) {
            Due.is("samples(" + point + ", ..)", x.samples(point, Integer.MIN_VALUE, Integer.MAX_VALUE), 0);
        }
        Due.yes("attach(1, 0, 0)", x.attach(1, 0, 0));
        Due.is("point(1, 3, 0)", x.point(1, 3, 0), 0);
        Due.is("request(1, 3, 0, 1, 0)", x.request(1, 3, 0, 1, 0), 0);
    }

    private static void linesAreIdle() {
        SerialPlant x = new SerialPlant();
        for (int line = 0; line < 2; line++) {
            Due.is("line(" + line + ", 0)", x.line(line, 0), 0);
            Due.is("line(" + line + ", 1)", x.line(line, 1), 0);
            Due.none("line(" + line + ", 2)", x.line(line, 2));
            Due.is("wire(" + line + ", false, -1)", x.wire(line, false, -1), 0);
            Due.is("wire(" + line + ", true, -1)", x.wire(line, true, -1), 0);
            Due.yes("fault(" + line + ", false, 0)", x.fault(line, false, 0));
            Due.yes("fault(" + line + ", true, 0)", x.fault(line, true, 0));
        }
    }

    private static void tablesAreZero() {
        SerialPlant x = new SerialPlant();
        for (int slave = 1; slave <= 6; slave++) {
            for (int table = 1; table <= 4; table++) {
                for (int address = 0; address < (table <= 2 ? 16 : 8); address++) {
                    Due.is("cell(" + slave + ", " + table + ", " + address + ")", x.cell(slave, table, address), 0);
                }
            }
        }
    }

    private static void timeIsZero() {
        Due.is("tick()", new SerialPlant().tick(), 1);
    }

    private static void objectsAreApart() {
        SerialPlant one = new SerialPlant();
        SerialPlant other = new SerialPlant();
        one.attach(1, 0, 0);
        one.process(1, 4, 0, 9);
        one.request(1, 6, 0, 0, 5);
        one.fault(1, true, 3);
        one.tick();
        Due.none("other.reply(0, 0)", other.reply(0, 0));
        Due.is("other.cell(1, 3, 0)", other.cell(1, 3, 0), 0);
        Due.is("other.cell(1, 4, 0)", other.cell(1, 4, 0), 0);
        Due.yes("other.fault(1, true, 3)", other.fault(1, true, 3));
        Due.yes("other.attach(1, 1, 1)", other.attach(1, 1, 1));
        Due.is("other.tick()", other.tick(), 1);
    }
}
