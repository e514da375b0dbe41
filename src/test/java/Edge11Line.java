/** Promise 11: line at its edges. */
public final class Edge11Line {
    public static void main(String[] args) {
        Due.holds("0 how many jobs are in its queue", Edge11Line::emptyToFull);
        Due.holds("1 the attempts of the job that it is busy with (0 when it is not busy)", Edge11Line::attempts);
        Due.holds("2 what it is busy with: the number of the request (a broadcast has one, too)", Edge11Line::numbersOfRequests);
        Due.holds("or 64 plus that of the point", Edge11Line::numbersOfPoints);
        Due.holds("NONE then when it is not busy.", Edge11Line::notBusy);
        Due.holds("NONE when there is no such line", Edge11Line::noSuchLine);
        Due.holds("or which is not 0 .. 2.", Edge11Line::noSuchWhich);
        Due.end();
    }

    private static void emptyToFull() {
        for (int line = 0; line < 2; line++) {
            SerialPlant x = Plant.withSlaves(0);
            Due.is("line(" + line + ", 0)", x.line(line, 0), 0);
            for (int n = 1; n <= 5; n++) {
                x.request(1 + line, 3, 0, 1, 0);
                Due.is("line(" + line + ", 0) after " + n, x.line(line, 0), Math.min(n, 4));
                Due.is("line(" + (1 - line) + ", 0) after " + n, x.line(1 - line, 0), 0);
            }
            for (int left = 3; left >= 0; left--) {
                x.tick();
                Due.is("line(" + line + ", 0)", x.line(line, 0), left);
            }
            x.tick();
            Due.is("line(" + line + ", 0)", x.line(line, 0), 0);
        }
    }

    private static void attempts() {
        for (int line = 0; line < 2; line++) {
            SerialPlant x = Plant.withSlaves(3);
            x.request(1 + line, 3, 0, 1, 0);
            int[] due = {0, 1, 1, 1, 2, 2, 2, 3, 3, 3, 0, 0};
            for (int attempts : due) {
                Due.is("line(" + line + ", 1)", x.line(line, 1), attempts);
                Due.is("line(" + (1 - line) + ", 1)", x.line(1 - line, 1), 0);
                x.tick();
            }
        }
        SerialPlant x = Plant.withSlaves(0);
        x.request(1, 3, 0, 1, 0);
        x.tick();
        Due.is("line(0, 1) after an answer at once", x.line(0, 1), 0);
    }

    private static void numbersOfRequests() {
        SerialPlant x = Plant.withSlaves(1);
        for (int n = 0; n < 64; n++) {
            boolean broadcast = n % 2 == 1;
            x.request(broadcast ? 0 : 1, 3, 0, 1, 0);
            x.tick();
            Due.is("line(0, 2)", x.line(0, 2), n);
            Due.is("line(1, 2)", x.line(1, 2), broadcast ? n : -1);
            x.tick();
            Due.is("line(0, 2)", x.line(0, 2), broadcast ? n : -1);
        }
    }

    private static void numbersOfPoints() {
        for (int line = 0; line < 2; line++) {
            SerialPlant x = Plant.withSlaves(1);
            for (int point = 0; point < 4; point++) {
                x.point(1 + line, 3, point);
            }
            Plant.ticks(x, 7);
            for (int point = 0; point < 4; point++) {
                x.tick();
                Due.is("line(" + line + ", 2)", x.line(line, 2), 64 + point);
                Due.none("line(" + (1 - line) + ", 2)", x.line(1 - line, 2));
            }
            x.tick();
            Due.none("line(" + line + ", 2)", x.line(line, 2));
        }
    }

    private static void notBusy() {
        for (int line = 0; line < 2; line++) {
            int there = line;
            Twins.dueRefused("line(" + line + ", 2)", Twins.Setting.NEW, x -> x.line(there, 2) == -1);
            // With a full queue it is not busy before a tick, and after one whose answer came at once.
            SerialPlant x = Plant.withSlaves(0);
            for (int n = 0; n < 4; n++) {
                x.request(1 + line, 3, 0, 1, 0);
            }
            Plant.dueLine(x, line, 4, 0, -1);
            x.tick();
            Plant.dueLine(x, line, 3, 0, -1);
        }
    }

    private static void noSuchLine() {
        for (int line : new int[] {Integer.MIN_VALUE, -2, -1, 2, 3, Integer.MAX_VALUE}) {
            for (int which = 0; which <= 2; which++) {
                int w = which;
                Twins.dueRefused("line(" + line + ", " + which + ")", x -> x.line(line, w) == -1);
            }
        }
    }

    private static void noSuchWhich() {
        for (int which : new int[] {Integer.MIN_VALUE, -1, 3, 4, Integer.MAX_VALUE}) {
            for (int line = 0; line < 2; line++) {
                int there = line;
                Twins.dueRefused("line(" + line + ", " + which + ")", x -> x.line(there, which) == -1);
            }
        }
    }
}
