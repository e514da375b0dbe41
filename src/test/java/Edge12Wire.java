/** Promise 12: wire at its edges. */
public final class Edge12Wire {
    public static void main(String[] args) {
        Due.holds("Byte k of the latest request's frame (answer false) [..] that was sent on the line", Edge12Wire::latestRequest);
        Due.holds("or answer's frame (answer true) that was sent on the line", Edge12Wire::latestAnswer);
        Due.holds("as it was before it was damaged", Edge12Wire::beforeTheDamage);
        Due.holds("k = NONE: its number of bytes, 0 when none was sent.", Edge12Wire::numberOfBytes);
        Due.holds("NONE when there is no such line", Edge12Wire::noSuchLine);
        Due.holds("or byte.", Edge12Wire::noSuchByte);
        Due.end();
    }

    private static void latestRequest() {
        SerialPlant x = Plant.withSlaves(3);
        x.request(1, 6, 7, 0, 65535);
        Due.is("wire(0, false, -1) while it is in the queue", x.wire(0, false, -1), 0);
        x.tick();
        Plant.dueFrame(x, 0, false, 1, 6, 0, 7, 255, 255);
        x.request(1, 99, 0, 0, 0);
        Plant.ticks(x, 8);
        Plant.dueFrame(x, 0, false, 1, 6, 0, 7, 255, 255);
        // A shorter frame after a longer one, and a longer one again.
        x.tick();
        Plant.dueFrame(x, 0, false, 1, 99);
        x.request(1, 22, 0, 0, 0);
        Plant.ticks(x, 9);
        Plant.dueFrame(x, 0, false, 1, 22, 0, 0, 0, 0, 0, 0);
        Due.is("wire(1, false, -1)", x.wire(1, false, -1), 0);
    }

    private static void latestAnswer() {
        SerialPlant x = Plant.withSlaves(2);
        x.request(1, 3, 0, 4, 0);
        x.request(1, 99, 0, 0, 0);
        x.tick();
        // It is sent with its request, before it comes.
        Plant.dueFrame(x, 0, true, 1, 3, 8, 0, 0, 0, 0, 0, 0, 0, 0);
        Plant.ticks(x, 2);
        Plant.dueFrame(x, 0, true, 1, 227, 1);
        // Requests that nobody answers leave it there.
        x.power(1, false);
        x.request(1, 3, 0, 1, 0);
        x.request(0, 6, 0, 0, 1);
        Plant.ticks(x, 15);
        Plant.dueFrame(x, 0, true, 1, 227, 1);
        Due.is("wire(1, true, -1)", x.wire(1, true, -1), 0);
        // An answer that would come too late was sent all the same.
        SerialPlant y = Plant.withSlaves(3);
        y.request(2, 6, 0, 0, 1);
        y.tick();
        Plant.dueFrame(y, 1, true, 2, 6, 0, 0, 0, 1);
    }

    private static void beforeTheDamage() {
        for (int bit : new int[] {0, 1, 7, 8, 63, 64, 327, 400}) {
            SerialPlant x = Plant.withSlaves(0);
            x.fault(0, false, bit);
            x.fault(1, true, bit);
            x.request(1, 6, 7, 0, 0x1234);
            x.request(2, 6, 7, 0, 0x1234);
            x.tick();
            Plant.dueFrame(x, 0, false, 1, 6, 0, 7, 0x12, 0x34);
            Plant.dueFrame(x, 1, false, 2, 6, 0, 7, 0x12, 0x34);
            Plant.dueFrame(x, 1, true, 2, 6, 0, 7, 0x12, 0x34);
        }
    }

    private static void numberOfBytes() {
        int[][] rows = {
            // function, count, bytes of the request, bytes of the answer
            {7, 0, 4, 5}, {127, 16, 4, 5}, {1, 1, 8, 6}, {1, 8, 8, 6}, {1, 9, 8, 7}, {2, 16, 8, 7}, {3, 1, 8, 7}, {4, 4, 8, 13},
            {3, 5, 8, 5}, {5, 0, 8, 8}, {6, 16, 8, 8}, {8, 0, 8, 8}, {22, 0, 10, 10}, {15, 0, 9, 5}, {15, 1, 10, 8},
            {15, 8, 10, 8}, {15, 9, 11, 8}, {15, 16, 11, 8}, {16, 0, 9, 5}, {16, 1, 11, 8}, {16, 4, 17, 8}, {16, 5, 19, 5},
            {16, 16, 41, 5},
        };
        for (int[] r : rows) {
            SerialPlant x = Plant.withSlaves(0);
            Due.is("wire(0, false, -1) when none was sent", x.wire(0, false, -1), 0);
            Due.is("wire(0, true, -1) when none was sent", x.wire(0, true, -1), 0);
            x.request(1, r[0], 0, r[1], 0);
            x.tick();
            Due.is("function " + r[0] + ", count " + r[1] + ": wire(0, false, -1)", x.wire(0, false, -1), r[2]);
            Due.is("function " + r[0] + ", count " + r[1] + ": wire(0, true, -1)", x.wire(0, true, -1), r[3]);
            dueEdges(x, false, r[2]);
            dueEdges(x, true, r[3]);
        }
    }

    /** Bytes 0 and bytes - 1 are there, byte -2 and byte bytes are not. */
    private static void dueEdges(SerialPlant x, boolean answer, int bytes) {
        Due.none("wire(0, " + answer + ", -2)", x.wire(0, answer, -2));
        Due.is("wire(0, " + answer + ", 0)", x.wire(0, answer, 0), 1);
        Due.yes("wire(0, " + answer + ", " + (bytes - 1) + ") is there", x.wire(0, answer, bytes - 1) >= 0);
        Due.none("wire(0, " + answer + ", " + bytes + ")", x.wire(0, answer, bytes));
    }

    private static void noSuchLine() {
        for (int line : new int[] {Integer.MIN_VALUE, -2, -1, 2, 3, Integer.MAX_VALUE}) {
            for (int k : new int[] {-1, 0}) {
                Twins.dueRefused("wire(" + line + ", false, " + k + ")", x -> x.wire(line, false, k) == -1);
                Twins.dueRefused("wire(" + line + ", true, " + k + ")", x -> x.wire(line, true, k) == -1);
            }
        }
    }

    private static void noSuchByte() {
        for (int k : new int[] {Integer.MIN_VALUE, -2, 41, 42, Integer.MAX_VALUE}) {
            for (int line = 0; line < 2; line++) {
                int there = line;
                Twins.dueRefused("wire(" + line + ", false, " + k + ")", x -> x.wire(there, false, k) == -1);
                Twins.dueRefused("wire(" + line + ", true, " + k + ")", x -> x.wire(there, true, k) == -1);
            }
        }
        Twins.dueRefused("wire(0, false, 0)", Twins.Setting.NEW, x -> x.wire(0, false, 0) == -1);
        Twins.dueRefused("wire(1, true, 0)", Twins.Setting.NEW, x -> x.wire(1, true, 0) == -1);
        // Bytes of a longer frame that was there before are there no more.
        SerialPlant x = Plant.withSlaves(0);
        x.request(1, 16, 0, 16, -1);
        x.request(1, 3, 0, 4, 0);
        x.request(1, 7, 0, 0, 0);
        Plant.ticks(x, 3);
        for (int k = 4; k <= 41; k++) {
            Due.none("wire(0, false, " + k + ")", x.wire(0, false, k));
        }
        for (int k = 5; k <= 14; k++) {
            Due.none("wire(0, true, " + k + ")", x.wire(0, true, k));
        }
    }
}
