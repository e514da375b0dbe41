/** Promise 2: attach. */
public final class Promise02Attach {
    public static void main(String[] args) {
        attachesEverySlave();
        refusesWrongArguments();
        refusesASecondTime();
        aRefusalChangesNothing();
        putsTheSlaveOnItsLine();
        givesTheSlaveItsDelay();
        keepsWhatTheSlaveWasBefore();
        hearsABroadcastThatWaitedForIt();
        Due.end();
    }

    private static void attachesEverySlave() {
        SerialPlant x = new SerialPlant();
        for (int slave = 1; slave <= 6; slave++) {
            Due.yes("attach(" + slave + ")", x.attach(slave, slave % 2, slave - 1));
            Due.is("point(" + slave + ")", x.point(slave, 3, 0), slave <= 4 ? slave - 1 : -1);
        }
    }

    private static void refusesWrongArguments() {
        int[][] wrong = {
            {0, 0, 0}, {7, 0, 0}, {-1, 0, 0}, {Integer.MAX_VALUE, 0, 0}, {Integer.MIN_VALUE, 0, 0},
            {1, -1, 0}, {1, 2, 0}, {1, Integer.MIN_VALUE, 0}, {1, Integer.MAX_VALUE, 0},
            {1, 0, -1}, {1, 0, 6}, {1, 0, Integer.MIN_VALUE}, {1, 0, Integer.MAX_VALUE},
        };
        SerialPlant x = new SerialPlant();
        for (int[] w : wrong) {
            Due.no("attach(" + w[0] + ", " + w[1] + ", " + w[2] + ")", x.attach(w[0], w[1], w[2]));
        }
        Due.none("point(1, 3, 0)", x.point(1, 3, 0));
        Due.yes("attach(1, 1, 5)", x.attach(1, 1, 5));
        Due.yes("attach(6, 0, 0)", x.attach(6, 0, 0));
    }

    private static void refusesASecondTime() {
        SerialPlant x = new SerialPlant();
        Due.yes("attach(3, 1, 2)", x.attach(3, 1, 2));
        Due.no("attach(3, 1, 2) again", x.attach(3, 1, 2));
        Due.no("attach(3, 0, 2) again", x.attach(3, 0, 2));
        x.power(3, false);
        Due.no("attach(3, 0, 0) when off", x.attach(3, 0, 0));
    }

    private static void aRefusalChangesNothing() {
        SerialPlant x = new SerialPlant();
        x.attach(1, 0, 0);
        x.attach(1, 1, 2);
        x.request(1, 3, 0, 1, 0);
        Plant.dueLine(x, 0, 1, 0, -1);
        Plant.dueLine(x, 1, 0, 0, -1);
        x.tick();
        Plant.dueReply(x, 0, 1, 0, 0);
    }

    private static void putsTheSlaveOnItsLine() {
        SerialPlant x = new SerialPlant();
        x.attach(4, 1, 0);
        x.attach(5, 0, 0);
        x.request(4, 6, 0, 0, 44);
        Plant.dueLine(x, 0, 0, 0, -1);
        Plant.dueLine(x, 1, 1, 0, -1);
        x.request(5, 6, 0, 0, 55);
        Plant.dueLine(x, 0, 1, 0, -1);
        x.tick();
        Plant.dueFrame(x, 1, false, 4, 6, 0, 0, 0, 44);
        Plant.dueFrame(x, 0, false, 5, 6, 0, 0, 0, 55);
        Due.is("cell(4, 3, 0)", x.cell(4, 3, 0), 44);
        Due.is("cell(5, 3, 0)", x.cell(5, 3, 0), 55);
    }

    private static void givesTheSlaveItsDelay() {
        for (int delay = 0; delay <= 5; delay++) {
            SerialPlant x = Plant.withSlaves(delay);
            x.request(1, 6, 0, 0, 1);
            for (int tick = 1; tick <= 12; tick++) {
                x.tick();
                int comes = delay < 3 ? 1 + delay : 10;
                int state = tick < comes ? 0 : delay < 3 ? 1 : 2;
                Due.is("delay " + delay + ", tick " + tick + ": reply(0, 0)", x.reply(0, 0), state);
            }
        }
    }

    private static void keepsWhatTheSlaveWasBefore() {
        SerialPlant x = new SerialPlant();
        x.power(2, false);
        x.process(2, 4, 3, 333);
        x.attach(2, 0, 0);
        x.request(2, 4, 3, 1, 0);
        x.tick();
        Plant.dueLine(x, 0, 0, 1, 0);
        x.power(2, true);
        Plant.ticks(x, 3);
        Plant.dueReply(x, 0, 1, 0, 333);
    }

    private static void hearsABroadcastThatWaitedForIt() {
        SerialPlant x = new SerialPlant();
        x.request(0, 6, 1, 0, 7);
        x.attach(1, 0, 0);
        x.tick();
        x.attach(2, 1, 0);
        Plant.ticks(x, 3);
        Due.is("cell(1, 3, 1)", x.cell(1, 3, 1), 7);
        Due.is("cell(2, 3, 1)", x.cell(2, 3, 1), 0);
        Due.is("cell(3, 3, 1)", x.cell(3, 3, 1), 0);
    }
}
