/** Promise 3: power. */
public final class Promise03Power {
    public static void main(String[] args) {
        everySlaveCanBeSwitched();
        refusesOthers();
        offDoesNothing();
        offMissesABroadcast();
        keepsItsTables();
        keepsItsMode();
        anAnswerThatWasSentStillComes();
        aLaterAttemptIsAnswered();
        Due.end();
    }

    private static void everySlaveCanBeSwitched() {
        SerialPlant x = new SerialPlant();
        for (int slave = 1; slave <= 6; slave++) {
            Due.yes("power(" + slave + ", true)", x.power(slave, true));
            Due.yes("power(" + slave + ", false)", x.power(slave, false));
            Due.yes("power(" + slave + ", false) again", x.power(slave, false));
        }
    }

    private static void refusesOthers() {
        SerialPlant x = new SerialPlant();
        for (int slave : new int[] {0, 7, -1, Integer.MIN_VALUE, Integer.MAX_VALUE}) {
            Due.no("power(" + slave + ", true)", x.power(slave, true));
            Due.no("power(" + slave + ", false)", x.power(slave, false));
        }
    }

    private static void offDoesNothing() {
        SerialPlant x = Plant.withSlaves(0);
        x.power(1, false);
        x.request(1, 6, 0, 0, 5);
        Plant.ticks(x, 9);
        Plant.dueReply(x, 0, 0, 0, 0);
        x.tick();
        Plant.dueReply(x, 0, 2, 11, 0);
        Due.is("cell(1, 3, 0)", x.cell(1, 3, 0), 0);
        Due.is("wire(0, true, -1)", x.wire(0, true, -1), 0);
        Plant.dueFrame(x, 0, false, 1, 6, 0, 0, 0, 5);
    }

    private static void offMissesABroadcast() {
        SerialPlant x = Plant.withSlaves(0);
        x.attach(3, 0, 0);
        x.power(1, false);
        x.request(0, 6, 0, 0, 5);
        x.tick();
        Due.is("cell(1, 3, 0)", x.cell(1, 3, 0), 0);
        Due.is("cell(2, 3, 0)", x.cell(2, 3, 0), 5);
        Due.is("cell(3, 3, 0)", x.cell(3, 3, 0), 5);
    }

    private static void keepsItsTables() {
        SerialPlant x = Plant.withSlaves(0);
        x.request(1, 6, 7, 0, 700);
        x.request(1, 5, 15, 0, 65280);
        Plant.ticks(x, 2);
        x.power(1, false);
        Due.yes("process(1, 4, 2, 22) when off", x.process(1, 4, 2, 22));
        Due.yes("process(1, 2, 9, 1) when off", x.process(1, 2, 9, 1));
        for (int i = 0; i < 2; i++) {
            Due.is("cell(1, 3, 7)", x.cell(1, 3, 7), 700);
            Due.is("cell(1, 1, 15)", x.cell(1, 1, 15), 1);
            Due.is("cell(1, 4, 2)", x.cell(1, 4, 2), 22);
            Due.is("cell(1, 2, 9)", x.cell(1, 2, 9), 1);
            x.power(1, true);
        }
    }

    private static void keepsItsMode() {
        SerialPlant x = Plant.withSlaves(0);
        x.request(0, 8, 4, 0, 0);
        Plant.ticks(x, 3);
        x.power(1, false);
        x.power(1, true);
        x.request(1, 6, 0, 0, 5);
        x.tick();
        Due.is("reply(1, 0)", x.reply(1, 0), 0);
        Due.is("cell(1, 3, 0)", x.cell(1, 3, 0), 0);
    }

    private static void anAnswerThatWasSentStillComes() {
        SerialPlant x = Plant.withSlaves(2);
        x.process(1, 4, 0, 77);
        x.request(1, 4, 0, 1, 0);
        x.tick();
        x.power(1, false);
        x.process(1, 4, 0, 78);
        Plant.ticks(x, 2);
        Plant.dueReply(x, 0, 1, 0, 77);
    }

    private static void aLaterAttemptIsAnswered() {
        SerialPlant x = Plant.withSlaves(1);
        x.power(1, false);
        x.request(1, 6, 0, 0, 5);
        Plant.ticks(x, 6);
        Plant.dueLine(x, 0, 0, 2, 0);
        x.power(1, true);
        x.tick();
        Plant.dueLine(x, 0, 0, 3, 0);
        Due.is("cell(1, 3, 0)", x.cell(1, 3, 0), 5);
        x.tick();
        Plant.dueReply(x, 0, 1, 0, 5);
    }
}
