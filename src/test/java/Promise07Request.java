/** Promise 7: request, and what the slaves do when they get one. */
public final class Promise07Request {
    public static void main(String[] args) {
        numbersSixtyFour();
        refusesWrongArguments();
        takesTheEdges();
        hasNoPathToOtherUnits();
        hasNoPathThroughAFullQueue();
        aPollFillsTheQueueToo();
        aBroadcastIsOverAtOnce();
        aBroadcastLeavesOutAFullLine();
        writesACoil();
        writesAHolding();
        masksAHolding();
        writesCoils();
        writesHoldings();
        readsChangeNothing();
        diagnosesListenOnly();
        listenOnlyHearsBroadcastDiagnosesAlone();
        Due.end();
    }

    private static void numbersSixtyFour() {
        SerialPlant x = Plant.withSlaves(0);
        for (int n = 0; n < 64; n++) {
            int unit = n % 3 == 2 ? 9 : n % 3;
            Due.is("request " + n, x.request(unit, 3, 0, 1, 0), n);
        }
        Due.none("request 64", x.request(1, 3, 0, 1, 0));
        Due.none("request 64, broadcast", x.request(0, 6, 0, 0, 1));
        Due.none("request 64, no path", x.request(9, 3, 0, 1, 0));
        Due.none("reply(64, 0)", x.reply(64, 0));
        Due.is("reply(63, 0)", x.reply(63, 0), 3);
    }

    private static void refusesWrongArguments() {
        int[][] wrong = {
            {-1, 3, 0, 1}, {248, 3, 0, 1}, {Integer.MIN_VALUE, 3, 0, 1}, {Integer.MAX_VALUE, 3, 0, 1},
            {1, 0, 0, 1}, {1, 128, 0, 1}, {1, -1, 0, 1}, {1, Integer.MIN_VALUE, 0, 1}, {1, Integer.MAX_VALUE, 0, 1},
            {1, 3, -1, 1}, {1, 3, 65536, 1}, {1, 3, Integer.MIN_VALUE, 1}, {1, 3, Integer.MAX_VALUE, 1},
            {1, 3, 0, -1}, {1, 3, 0, 17}, {1, 3, 0, Integer.MIN_VALUE}, {1, 3, 0, Integer.MAX_VALUE},
        };
        SerialPlant x = Plant.withSlaves(0);
        for (int[] w : wrong) {
            Due.none("request(" + w[0] + ", " + w[1] + ", " + w[2] + ", " + w[3] + ", 0)",
                x.request(w[0], w[1], w[2], w[3], 0));
        }
        Plant.dueLine(x, 0, 0, 0, -1);
        Due.is("request(1, 3, 0, 1, 0)", x.request(1, 3, 0, 1, 0), 0);
    }

    private static void takesTheEdges() {
        SerialPlant x = Plant.withSlaves(0);
        Due.is("request(0, 1, 0, 0, MIN)", x.request(0, 1, 0, 0, Long.MIN_VALUE), 0);
        Due.is("request(247, 127, 65535, 16, MAX)", x.request(247, 127, 65535, 16, Long.MAX_VALUE), 1);
        Due.is("request(1, 127, 65535, 16, -1)", x.request(1, 127, 65535, 16, -1), 2);
    }

    private static void hasNoPathToOtherUnits() {
        SerialPlant x = Plant.withSlaves(0);
        int n = 0;
        for (int unit : new int[] {3, 6, 7, 8, 100, 247}) {
            Due.is("request(" + unit + ", ..)", x.request(unit, 3, 0, 1, 0), n);
            Plant.dueReply(x, n, 2, 10, 0);
            n++;
        }
        Plant.dueLine(x, 0, 0, 0, -1);
        Plant.dueLine(x, 1, 0, 0, -1);
        x.attach(3, 0, 0);
        Plant.ticks(x, 12);
        Plant.dueReply(x, 0, 2, 10, 0);
        Due.is("wire(0, false, -1)", x.wire(0, false, -1), 0);
    }

    private static void hasNoPathThroughAFullQueue() {
        SerialPlant x = Plant.withSlaves(2);
        for (int n = 0; n < 4; n++) {
            x.request(1, 6, n, 0, 5);
            Plant.dueReply(x, n, 0, 0, 0);
        }
        x.request(1, 6, 4, 0, 5);
        Plant.dueReply(x, 4, 2, 10, 0);
        x.request(2, 6, 0, 0, 5);
        Plant.dueReply(x, 5, 0, 0, 0);
        x.tick();
        Plant.dueLine(x, 0, 3, 1, 0);
        x.request(1, 6, 6, 0, 5);
        Plant.dueReply(x, 6, 0, 0, 0);
        x.request(1, 6, 7, 0, 5);
        Plant.dueReply(x, 7, 2, 10, 0);
        Plant.ticks(x, 20);
        int[] written = {5, 5, 5, 5, 0, 0, 5, 0};
        for (int k = 0; k < 8; k++) {
            Due.is("cell(1, 3, " + k + ")", x.cell(1, 3, k), written[k]);
        }
    }

    private static void aPollFillsTheQueueToo() {
        SerialPlant x = Plant.withSlaves(5);
        for (int i = 0; i < 4; i++) {
            x.point(1, 3, i);
        }
        x.power(1, false);
        Plant.ticks(x, 7);
        x.request(1, 3, 0, 1, 0);
        x.tick();
        Plant.dueLine(x, 0, 3, 1, 0);
        x.request(1, 3, 0, 1, 0);
        x.request(1, 3, 0, 1, 0);
        Plant.dueReply(x, 1, 0, 0, 0);
        Plant.dueReply(x, 2, 2, 10, 0);
    }

    private static void aBroadcastIsOverAtOnce() {
        SerialPlant x = new SerialPlant();
        x.attach(1, 0, 5);
        x.attach(2, 0, 0);
        x.attach(3, 1, 1);
        x.request(0, 16, 2, 2, 0x00020001L);
        Plant.dueReply(x, 0, 3, 0, 0);
        Plant.dueLine(x, 0, 1, 0, -1);
        Plant.dueLine(x, 1, 1, 0, -1);
        x.tick();
        Plant.dueReply(x, 0, 3, 0, 0);
        for (int slave = 1; slave <= 4; slave++) {
            Due.is("cell(" + slave + ", 3, 2)", x.cell(slave, 3, 2), slave < 4 ? 1 : 0);
            Due.is("cell(" + slave + ", 3, 3)", x.cell(slave, 3, 3), slave < 4 ? 2 : 0);
        }
        Due.is("wire(0, true, -1)", x.wire(0, true, -1), 0);
        Due.is("wire(1, true, -1)", x.wire(1, true, -1), 0);
        x.request(0, 99, 0, 0, 0);
        x.request(0, 6, 8, 0, 1);
        Plant.dueReply(x, 1, 3, 0, 0);
        Plant.dueReply(x, 2, 3, 0, 0);
        Plant.ticks(x, 6);
        Due.is("wire(0, true, -1)", x.wire(0, true, -1), 0);
    }

    private static void aBroadcastLeavesOutAFullLine() {
        SerialPlant x = Plant.withSlaves(0);
        for (int n = 0; n < 4; n++) {
            x.request(1, 3, 0, 1, 0);
        }
        x.request(0, 6, 0, 0, 9);
        Plant.dueReply(x, 4, 3, 0, 0);
        Plant.dueLine(x, 0, 4, 0, -1);
        Plant.dueLine(x, 1, 1, 0, -1);
        Plant.ticks(x, 8);
        Due.is("cell(1, 3, 0)", x.cell(1, 3, 0), 0);
        Due.is("cell(2, 3, 0)", x.cell(2, 3, 0), 9);

        SerialPlant y = new SerialPlant();
        for (int n = 0; n < 6; n++) {
            Due.is("request(0, 6, 0, 0, 9)", y.request(0, 6, 0, 0, 9), n);
            Plant.dueReply(y, n, 3, 0, 0);
            Due.is("line(0, 0)", y.line(0, 0), n < 4 ? n + 1 : 4);
            Due.is("line(1, 0)", y.line(1, 0), n < 4 ? n + 1 : 4);
        }
    }

    /** Sends one request to slave 1 of x, which gets it at once. */
    private static void send(SerialPlant x, int function, int address, int count, long value) {
        x.request(1, function, address, count, value);
        x.tick();
    }

    /** The tables of slave 1: its coils as the bits of a number, its holdings, and zeros in the others. */
    private static void dueTables(SerialPlant x, int coils, int... holdings) {
        for (int k = 0; k < 16; k++) {
            Due.is("cell(1, 1, " + k + ")", x.cell(1, 1, k), coils >> k & 1);
            Due.is("cell(1, 2, " + k + ")", x.cell(1, 2, k), 0);
        }
        for (int k = 0; k < 8; k++) {
            Due.is("cell(1, 3, " + k + ")", x.cell(1, 3, k), k < holdings.length ? holdings[k] : 0);
            Due.is("cell(1, 4, " + k + ")", x.cell(1, 4, k), 0);
        }
    }

    private static void writesACoil() {
        SerialPlant x = Plant.withSlaves(0);
        send(x, 5, 15, 0, 65280);
        dueTables(x, 0x8000);
        send(x, 5, 15, 0, 1);
        dueTables(x, 0x8000);
        send(x, 5, 4, 16, 0xABCD_FF00L);
        dueTables(x, 0x8010);
        send(x, 5, 15, 0, 0xFFFF_0000L);
        dueTables(x, 0x0010);
        send(x, 5, 0, 0, 65280);
        dueTables(x, 0x0011);
    }

    private static void writesAHolding() {
        SerialPlant x = Plant.withSlaves(0);
        send(x, 6, 7, 0, 0x1_FFFE);
        dueTables(x, 0, 0, 0, 0, 0, 0, 0, 0, 0xFFFE);
        send(x, 6, 0, 16, -1);
        dueTables(x, 0, 65535, 0, 0, 0, 0, 0, 0, 0xFFFE);
        send(x, 6, 4, 4, 0xFFFF_FFFF_FFFF_0102L);
        dueTables(x, 0, 65535, 0, 0, 0, 0x0102, 0, 0, 0xFFFE);
    }

    private static void masksAHolding() {
        SerialPlant x = Plant.withSlaves(0);
        send(x, 6, 4, 0, 0x0012);
        send(x, 22, 4, 3, 0x0025_00F2L);
        dueTables(x, 0, 0, 0, 0, 0, 0x0017);
        send(x, 22, 4, 0, 0x7777_1234_0000_FFFFL);
        dueTables(x, 0, 0, 0, 0, 0, 0x0017);
        send(x, 22, 4, 16, 0xFFFF_0000L);
        dueTables(x, 0, 0, 0, 0, 0, 65535);
    }

    private static void writesCoils() {
        SerialPlant x = Plant.withSlaves(0);
        send(x, 15, 3, 9, 0xFFFF_FF55L);
        dueTables(x, 0x155 << 3);
        send(x, 15, 0, 16, -1);
        dueTables(x, 0xFFFF);
        send(x, 15, 3, 9, 0x55);
        dueTables(x, 0xF007 | 0x55 << 3);
        send(x, 15, 0, 4, 0);
        dueTables(x, 0xF000 | 0x55 << 3 & ~15);
        send(x, 15, 15, 1, 0xFFFE);
        dueTables(x, 0x7000 | 0x55 << 3 & ~15);
    }

    private static void writesHoldings() {
        SerialPlant x = Plant.withSlaves(0);
        send(x, 16, 1, 3, 0xFFFF_8003_8002_8001L);
        dueTables(x, 0, 0, 0x8001, 0x8002, 0x8003);
        send(x, 16, 4, 4, 0xFFFF_0003_0002_0001L);
        dueTables(x, 0, 0, 0x8001, 0x8002, 0x8003, 1, 2, 3, 65535);
        send(x, 16, 4, 1, 0xFFFF_0000L);
        dueTables(x, 0, 0, 0x8001, 0x8002, 0x8003, 0, 2, 3, 65535);
        Plant.dueReply(x, 2, 1, 0, 1);
    }

    private static void readsChangeNothing() {
        SerialPlant x = Plant.withSlaves(0);
        for (int function : new int[] {1, 2, 3, 4}) {
            send(x, function, 0, 4, -1);
        }
        send(x, 8, 0, 0, -1);
        send(x, 7, 0, 1, -1);
        dueTables(x, 0);
    }

    private static void diagnosesListenOnly() {
        SerialPlant x = Plant.withSlaves(0);
        send(x, 8, 0, 0, 3);
        Plant.dueReply(x, 0, 1, 0, 3);
        send(x, 8, 1, 0, 4);
        Plant.dueReply(x, 1, 1, 0, 4);
        send(x, 8, 4, 0, 5);
        Plant.dueReply(x, 2, 0, 0, 0);
        Plant.ticks(x, 9);
        Plant.dueReply(x, 2, 2, 11, 0);
        send(x, 8, 0, 0, 6);
        Plant.ticks(x, 9);
        Plant.dueReply(x, 3, 2, 11, 0);
        send(x, 8, 2, 0, 6);
        Plant.ticks(x, 9);
        Plant.dueReply(x, 4, 2, 11, 0);
        send(x, 7, 0, 0, 0);
        Plant.ticks(x, 9);
        Plant.dueReply(x, 5, 2, 11, 0);
        send(x, 8, 1, 0, 7);
        Plant.dueReply(x, 6, 0, 0, 0);
        Plant.ticks(x, 3);
        Plant.dueReply(x, 6, 1, 0, 7);
        send(x, 6, 0, 0, 8);
        Plant.dueReply(x, 7, 1, 0, 8);
    }

    private static void listenOnlyHearsBroadcastDiagnosesAlone() {
        SerialPlant x = Plant.withSlaves(0);
        x.attach(3, 0, 0);
        x.request(3, 8, 4, 0, 0);
        x.request(0, 6, 0, 0, 9);
        x.request(0, 8, 1, 0, 0);
        x.request(0, 6, 1, 0, 10);
        Plant.ticks(x, 30);
        Due.is("cell(1, 3, 0)", x.cell(1, 3, 0), 9);
        Due.is("cell(3, 3, 0)", x.cell(3, 3, 0), 0);
        Due.is("cell(1, 3, 1)", x.cell(1, 3, 1), 10);
        Due.is("cell(3, 3, 1)", x.cell(3, 3, 1), 10);
        x.request(0, 8, 4, 0, 0);
        Plant.ticks(x, 3);
        for (int slave = 1; slave <= 2; slave++) {
            x.request(slave, 3, 0, 1, 0);
        }
        Plant.ticks(x, 12);
        Due.is("reply(5, 1)", x.reply(5, 1), 11);
        Due.is("reply(6, 1)", x.reply(6, 1), 11);
    }
}
