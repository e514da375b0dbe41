/** Promise 1: what a new object is empty of. */
public final class Edge01NewObject {
    private static final int[] ANY = {Integer.MIN_VALUE, -2, -1, 0, 1, 2, 3, 4, 11, 12, 63, 64, Integer.MAX_VALUE};

    public static void main(String[] args) {
        Due.holds("No slave is attached", Edge01NewObject::noSlaveIsAttached);
        Due.holds("no points", Edge01NewObject::noPoints);
        Due.holds("no requests", Edge01NewObject::noRequests);
        Due.holds("no samples", Edge01NewObject::noSamples);
        Due.holds("T is 0.", Edge01NewObject::timeIsZero);
        Due.holds("k = NONE: its number of bytes, 0 when none was sent.", Edge01NewObject::nothingWasSent);
        Due.holds("public static final int NONE = -1;", () -> Due.is("NONE", SerialPlant.NONE, -1));
        Due.end();
    }

    private static void noSlaveIsAttached() {
        for (int slave = 1; slave <= 6; slave++) {
            SerialPlant x = new SerialPlant();
            Due.none("point(" + slave + ", 3, 0)", x.point(slave, 3, 0));
            x.request(slave, 3, 0, 1, 0);
            Plant.dueReply(x, 0, 2, 10, 0);
            // A broadcast finds nobody there, on either line.
            x.request(0, 6, 0, 0, 9);
            x.tick();
            Due.is("cell(" + slave + ", 3, 0)", x.cell(slave, 3, 0), 0);
            Due.yes("attach(" + slave + ", 1, 5)", x.attach(slave, 1, 5));
        }
    }

    private static void noPoints() {
        SerialPlant x = Plant.withSlaves(0);
        Plant.ticks(x, 17);
        for (int line = 0; line < 2; line++) {
            Plant.dueLine(x, line, 0, 0, -1);
            Due.is("wire(" + line + ", false, -1)", x.wire(line, false, -1), 0);
        }
        Due.is("point(1, 3, 0), the first,", x.point(1, 3, 0), 0);
    }

    private static void noRequests() {
        SerialPlant x = new SerialPlant();
        for (int n : ANY) {
            for (int which = 0; which <= 2; which++) {
                Due.none("reply(" + n + ", " + which + ")", x.reply(n, which));
            }
        }
        for (int line = 0; line < 2; line++) {
            Plant.dueLine(x, line, 0, 0, -1);
        }
        Due.is("request(9, 1, 0, 0, 0), the first,", x.request(9, 1, 0, 0, 0), 0);
    }

    private static void noSamples() {
        SerialPlant x = new SerialPlant();
        for (int k : ANY) {
            for (int which = 0; which <= 2; which++) {
                Due.none("sample(" + k + ", " + which + ")", x.sample(k, which));
            }
            Due.is("samples(" + k + ", ..)", x.samples(k, Integer.MIN_VALUE, Integer.MAX_VALUE), 0);
            Due.is("samples(" + k + ", 0, 0)", x.samples(k, 0, 0), 0);
        }
    }

    private static void timeIsZero() {
        SerialPlant x = new SerialPlant();
        Due.is("the first tick()", x.tick(), 1);
        SerialPlant y = new SerialPlant();
        Due.is("the first tick() of another object", y.tick(), 1);
        Due.is("the second tick()", x.tick(), 2);
    }

    private static void nothingWasSent() {
        SerialPlant x = new SerialPlant();
        for (int line = 0; line < 2; line++) {
            for (boolean answer : new boolean[] {false, true}) {
                Due.is("wire(" + line + ", " + answer + ", -1)", x.wire(line, answer, -1), 0);
                Due.none("wire(" + line + ", " + answer + ", 0)", x.wire(line, answer, 0));
            }
        }
    }
}
