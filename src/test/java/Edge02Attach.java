/** Promise 2: the calls of attach that are refused, and change nothing. */
public final class Edge02Attach {
    public static void main(String[] args) {
        Due.holds("False when there is no such slave", Edge02Attach::noSuchSlave);
        Due.holds("or line", Edge02Attach::noSuchLine);
        Due.holds("the delay is not 0 .. 5", Edge02Attach::noSuchDelay);
        Due.holds("or it is attached already.", Edge02Attach::attachedAlready);
        Due.holds("The slave is attached.", Edge02Attach::edgesThatAreTaken);
        Due.end();
    }

    private static void dueRefused(int slave, int line, int delay) {
        Twins.dueRefused("attach(" + slave + ", " + line + ", " + delay + ")", x -> !x.attach(slave, line, delay));
    }

    private static void noSuchSlave() {
        for (int slave : new int[] {Integer.MIN_VALUE, -6, -1, 0, 7, 8, Integer.MAX_VALUE}) {
            dueRefused(slave, 0, 0);
            dueRefused(slave, 1, 5);
        }
    }

    private static void noSuchLine() {
        for (int line : new int[] {Integer.MIN_VALUE, -1, 2, 3, Integer.MAX_VALUE}) {
            dueRefused(6, line, 0);
            dueRefused(1, line, 0);
        }
    }

    private static void noSuchDelay() {
        for (int delay : new int[] {Integer.MIN_VALUE, -1, 6, 7, Integer.MAX_VALUE}) {
            dueRefused(6, 0, delay);
            dueRefused(6, 1, delay);
            dueRefused(1, 1, delay);
        }
    }

    private static void attachedAlready() {
        for (int slave = 1; slave <= 4; slave++) {
            for (int delay = 0; delay <= 5; delay++) {
                for (int line = 0; line <= 1; line++) {
                    int[] w = {slave, line, delay};
                    String call = "attach(" + slave + ", " + line + ", " + delay + ") of an attached slave";
                    Twins.dueRefused(call, Twins.Setting.BUSY, x -> !x.attach(w[0], w[1], w[2]));
                    Twins.dueRefused(call, Twins.Setting.FULL, x -> !x.attach(w[0], w[1], w[2]));
                }
            }
        }
        SerialPlant x = new SerialPlant();
        for (int slave = 1; slave <= 6; slave++) {
            Due.yes("attach(" + slave + ", 1, 0)", x.attach(slave, 1, 0));
            Due.no("attach(" + slave + ", 1, 0) again", x.attach(slave, 1, 0));
        }
    }

    private static void edgesThatAreTaken() {
        for (int slave : new int[] {1, 6}) {
            for (int line = 0; line <= 1; line++) {
                for (int delay : new int[] {0, 5}) {
                    SerialPlant x = new SerialPlant();
                    Due.yes("attach(" + slave + ", " + line + ", " + delay + ")", x.attach(slave, line, delay));
                    x.request(slave, 6, 0, 0, 3);
                    x.tick();
                    Plant.dueLine(x, line, 0, delay == 0 ? 0 : 1, delay == 0 ? -1 : 0);
                    Due.is("cell(" + slave + ", 3, 0)", x.cell(slave, 3, 0), 3);
                }
            }
        }
        // A refused one is no attachment: the right call is taken after it.
        SerialPlant x = new SerialPlant();
        Due.no("attach(1, 2, 0)", x.attach(1, 2, 0));
        Due.no("attach(1, 1, 6)", x.attach(1, 1, 6));
        x.request(1, 3, 0, 1, 0);
        Plant.dueReply(x, 0, 2, 10, 0);
        Due.yes("attach(1, 0, 0)", x.attach(1, 0, 0));
        x.request(1, 3, 0, 1, 0);
        x.tick();
        Plant.dueReply(x, 1, 1, 0, 0);
    }
}
