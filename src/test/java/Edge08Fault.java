/** Promise 8: fault at its edges. */
public final class Edge08Fault {
    public static void main(String[] args) {
        Due.holds("A fault will wait for the line: the next request's frame (answer false) [..] that is sent there is damaged",
            Edge08Fault::theNextRequestAlone);
        Due.holds("or answer's frame (answer true) that is sent there is damaged", Edge08Fault::theNextAnswerAlone);
        Due.holds("bit (bit mod its number of bits) is turned.", Edge08Fault::bitsBeyondTheFrame);
        Due.holds("False when there is no such line", Edge08Fault::noSuchLine);
        Due.holds("bit is not 0 .. 400", Edge08Fault::noSuchBit);
        Due.holds("or such a fault waits there already.", Edge08Fault::waitsAlready);
        Due.end();
    }

    private static void dueRefused(int line, boolean answer, int bit) {
        Twins.dueRefused("fault(" + line + ", " + answer + ", " + bit + ")", x -> !x.fault(line, answer, bit));
    }

    private static void theNextRequestAlone() {
        for (int line = 0; line < 2; line++) {
            SerialPlant x = Plant.withSlaves(0);
            x.request(1, 6, 0, 0, 1);
            x.request(2, 6, 0, 0, 1);
            x.tick();
            // It waits from now on: what was sent before stays good, and the next frame alone is damaged.
            x.fault(line, false, 0);
            Plant.dueReply(x, line, 1, 0, 1);
            x.request(1, 6, 1, 0, 2);
            x.request(2, 6, 1, 0, 2);
            x.tick();
            Due.is("cell of line " + line, x.cell(1 + line, 3, 1), 0);
            Due.is("cell of the other line", x.cell(2 - line, 3, 1), 2);
            Plant.ticks(x, 3);
            Plant.dueReply(x, 2 + line, 1, 0, 2);
            x.request(1 + line, 6, 2, 0, 3);
            x.tick();
            Plant.dueReply(x, 4, 1, 0, 3);
        }
    }

    private static void theNextAnswerAlone() {
        for (int line = 0; line < 2; line++) {
            SerialPlant x = Plant.withSlaves(2);
            x.request(1, 6, 0, 0, 1);
            x.request(2, 6, 0, 0, 1);
            x.tick();
            // The answers were sent with the requests, though they have not come yet.
            x.fault(line, true, 0);
            Plant.ticks(x, 2);
            Plant.dueReply(x, 0, 1, 0, 1);
            Plant.dueReply(x, 1, 1, 0, 1);
            x.request(1, 6, 1, 0, 2);
            x.request(2, 6, 1, 0, 2);
            Plant.ticks(x, 3);
            Plant.dueReply(x, 2 + line, 0, 0, 0);
            Plant.dueReply(x, 3 - line, 1, 0, 2);
            Due.is("cell of line " + line, x.cell(1 + line, 3, 1), 2);
            Plant.ticks(x, 3);
            Plant.dueReply(x, 2 + line, 1, 0, 2);
        }
    }

    /** Frames of 4, 8 and 41 bytes have 32, 64 and 328 bits: each bit, and each beyond, is some bit's turn. */
    private static void bitsBeyondTheFrame() {
        for (int bit : new int[] {0, 1, 31, 32, 33, 39, 40, 63, 64, 65, 127, 128, 327, 328, 329, 399, 400}) {
            SerialPlant x = Plant.withSlaves(0);
            int[][] frames = {{7, 0, 0}, {6, 7, 0}, {16, 0, 16}};
            for (int[] f : frames) {
                Due.yes("fault(0, false, " + bit + ")", x.fault(0, false, bit));
                Due.yes("fault(1, true, " + bit + ")", x.fault(1, true, bit));
                int n = x.request(1, f[0], f[1], f[2], 9);
                x.request(2, f[0], f[1], f[2], 9);
                Plant.ticks(x, 3);
                Due.is("bit " + bit + " of function " + f[0] + ": reply(" + n + ", 0)", x.reply(n, 0), 0);
                Due.is("bit " + bit + " of function " + f[0] + ": its answer", x.reply(n + 1, 0), 0);
                x.tick();
                int state = f[0] == 6 ? 1 : 2;
                Due.is("bit " + bit + " of function " + f[0] + ", sent again", x.reply(n, 0), state);
                Due.is("bit " + bit + " of function " + f[0] + ", answered again", x.reply(n + 1, 0), state);
            }
        }
    }

    private static void noSuchLine() {
        for (int line : new int[] {Integer.MIN_VALUE, -1, 2, 3, Integer.MAX_VALUE}) {
            for (int bit : new int[] {0, 400}) {
                dueRefused(line, false, bit);
                dueRefused(line, true, bit);
            }
        }
    }

    private static void noSuchBit() {
        for (int bit : new int[] {Integer.MIN_VALUE, -400, -1, 401, 402, Integer.MAX_VALUE}) {
            for (int line = 0; line < 2; line++) {
                dueRefused(line, false, bit);
                dueRefused(line, true, bit);
            }
        }
        for (int bit : new int[] {0, 400}) {
            SerialPlant x = new SerialPlant();
            for (int line = 0; line < 2; line++) {
                Due.yes("fault(" + line + ", false, " + bit + ")", x.fault(line, false, bit));
                Due.yes("fault(" + line + ", true, " + bit + ")", x.fault(line, true, bit));
            }
        }
    }

    private static void waitsAlready() {
        for (int bit : new int[] {0, 3, 4, 400}) {
            Twins.dueRefused("fault(0, true, " + bit + ") when it waits", Twins.Setting.BUSY, x -> !x.fault(0, true, bit));
            Twins.dueRefused("fault(1, false, " + bit + ") when it waits", Twins.Setting.BUSY, x -> !x.fault(1, false, bit));
            for (int line = 0; line < 2; line++) {
                int there = line;
                Twins.dueRefused("fault(" + line + ", false, " + bit + ") when it waits", Twins.Setting.FULL,
                    x -> !x.fault(there, false, bit));
                Twins.dueRefused("fault(" + line + ", true, " + bit + ") when it waits", Twins.Setting.FULL,
                    x -> !x.fault(there, true, bit));
            }
        }
        // "Such a fault": those of the other line and the other direction are others.
        for (int waiting = 0; waiting < 4; waiting++) {
            SerialPlant x = new SerialPlant();
            Due.yes("fault", x.fault(waiting / 2, waiting % 2 == 1, 9));
            for (int other = 0; other < 4; other++) {
                boolean due = other != waiting;
                Due.is("fault " + other + " while " + waiting + " waits", x.fault(other / 2, other % 2 == 1, 9) ? 1 : 0,
                    due ? 1 : 0);
            }
        }
    }
}
