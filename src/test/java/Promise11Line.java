/** Promise 11: line. */
public final class Promise11Line {
    public static void main(String[] args) {
        answersNoneElsewhere();
        countsTheQueue();
        tellsTheAttempts();
        tellsRequestsBroadcastsAndPolls();
        isIdleAfterAnAnswerAtOnce();
        Due.end();
    }

    private static void answersNoneElsewhere() {
        SerialPlant x = Plant.withSlaves(2);
        x.request(0, 6, 0, 0, 1);
        x.tick();
        for (int line : new int[] {-1, 2, Integer.MIN_VALUE, Integer.MAX_VALUE}) {
            for (int which = 0; which <= 2; which++) {
                Due.none("line(" + line + ", " + which + ")", x.line(line, which));
            }
        }
        for (int which : new int[] {-1, 3, Integer.MIN_VALUE, Integer.MAX_VALUE}) {
            Due.none("line(0, " + which + ")", x.line(0, which));
        }
    }

    private static void countsTheQueue() {
        SerialPlant x = Plant.withSlaves(2);
        for (int n = 0; n < 6; n++) {
            x.request(2, 3, 0, 1, 0);
            Plant.dueLine(x, 1, n < 4 ? n + 1 : 4, 0, -1);
            Plant.dueLine(x, 0, 0, 0, -1);
        }
        for (int n = 0; n < 4; n++) {
            x.tick();
            Plant.dueLine(x, 1, 3 - n, 1, n);
            x.tick();
            Plant.dueLine(x, 1, 3 - n, 1, n);
        }
        x.tick();
        Plant.dueLine(x, 1, 0, 0, -1);
    }

    private static void tellsTheAttempts() {
        SerialPlant x = Plant.withSlaves(4);
        x.request(1, 3, 0, 1, 0);
        x.request(1, 3, 0, 1, 0);
        for (int n = 0; n < 2; n++) {
            for (int i = 0; i < 9; i++) {
                x.tick();
                Plant.dueLine(x, 0, 1 - n, 1 + i / 3, n);
            }
        }
        x.tick();
        Plant.dueLine(x, 0, 0, 0, -1);
    }

    private static void tellsRequestsBroadcastsAndPolls() {
        SerialPlant x = Plant.withSlaves(1);
        for (int i = 0; i < 4; i++) {
            x.point(1, 3, i);
        }
        x.request(9, 3, 0, 1, 0);
        x.request(0, 6, 0, 0, 1);
        x.tick();
        Plant.dueLine(x, 0, 0, 1, 1);
        Plant.dueLine(x, 1, 0, 1, 1);
        Plant.ticks(x, 6);
        for (int i = 0; i < 4; i++) {
            x.tick();
            Plant.dueLine(x, 0, 3 - i, 1, 64 + i);
        }
        x.tick();
        Plant.dueLine(x, 0, 0, 0, -1);
    }

    private static void isIdleAfterAnAnswerAtOnce() {
        SerialPlant x = Plant.withSlaves(0);
        x.request(1, 3, 0, 1, 0);
        x.tick();
        Plant.dueLine(x, 0, 0, 0, -1);
    }
}
