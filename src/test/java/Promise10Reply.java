/** Promise 10: reply, with the exceptions that a slave answers. */
public final class Promise10Reply {
    public static void main(String[] args) {
        answersNoneElsewhere();
        bits();
        words();
        echoes();
        counts();
        unknownFunctions();
        countsAndValuesComeBeforeAddresses();
        edgesOfCounts();
        edgesOfAddresses();
        values();
        anAnswerIsOfItsSending();
        Due.end();
    }

    private static void answersNoneElsewhere() {
        SerialPlant x = Plant.withSlaves(0);
        x.request(1, 3, 0, 1, 0);
        for (int n : new int[] {-1, 1, 63, 64, Integer.MIN_VALUE, Integer.MAX_VALUE}) {
            for (int which = 0; which <= 2; which++) {
                Due.none("reply(" + n + ", " + which + ")", x.reply(n, which));
            }
        }
        for (int which : new int[] {-1, 3, Integer.MIN_VALUE, Integer.MAX_VALUE}) {
            Due.none("reply(0, " + which + ")", x.reply(0, which));
        }
    }

    /** Slave 1 answers the request at once; reply() tells of it as due. */
    private static void due(SerialPlant x, int[] request, long value, int state, int exception, long answered) {
        int n = x.request(1, request[0], request[1], request[2], value);
        Plant.dueReply(x, n, 0, 0, 0);
        x.tick();
        Plant.dueReply(x, n, state, exception, answered);
    }

    private static void dueAnswer(SerialPlant x, int function, int address, int count, long value, long answered) {
        due(x, new int[] {function, address, count}, value, 1, 0, answered);
    }

    private static void dueException(int function, int address, int count, long value, int exception) {
        SerialPlant x = Plant.withSlaves(0);
        due(x, new int[] {function, address, count}, value, 2, exception, 0);
        Plant.dueFrame(x, 0, true, 1, function + 128, exception);
        for (int table = 1; table <= 4; table++) {
            for (int k = 0; k < (table <= 2 ? 16 : 8); k++) {
                Due.is("cell(1, " + table + ", " + k + ")", x.cell(1, table, k), 0);
            }
        }
    }

    private static void dueWell(int function, int address, int count, long value) {
        SerialPlant x = Plant.withSlaves(0);
        int n = x.request(1, function, address, count, value);
        x.tick();
        Due.is("request(1, " + function + ", " + address + ", " + count + ", " + value + ") has state",
            x.reply(n, 0), 1);
        Due.is("and exception", x.reply(n, 1), 0);
    }

    private static void bits() {
        SerialPlant x = Plant.withSlaves(0);
        dueAnswer(x, 15, 0, 16, 0xA5C3, 16);
        for (int k = 0; k < 16; k++) {
            x.process(1, 2, k, 0x9B71 >> k & 1);
        }
        for (int address = 0; address < 16; address++) {
            for (int count = 1; address + count <= 16; count += 5) {
                SerialPlant y = Plant.withSlaves(0);
                y.request(1, 15, 0, 16, 0xA5C3);
                y.tick();
                dueAnswer(y, 1, address, count, -1, 0xA5C3 >> address & (1 << count) - 1);
            }
        }
        dueAnswer(x, 1, 0, 16, 0, 0xA5C3);
        dueAnswer(x, 2, 0, 16, 0, 0x9B71);
        dueAnswer(x, 2, 4, 8, 0, 0xB7);
        dueAnswer(x, 2, 4, 9, 0, 0x1B7);
        dueAnswer(x, 2, 15, 1, 0, 1);
    }

    private static void words() {
        SerialPlant x = Plant.withSlaves(0);
        dueAnswer(x, 16, 0, 4, 0x8004_8003_8002_8001L, 4);
        dueAnswer(x, 3, 0, 4, 0, 0x8004_8003_8002_8001L);
        dueAnswer(x, 3, 1, 1, 0, 0x8002);
        dueAnswer(x, 3, 1, 4, 0, 0x0000_8004_8003_8002L);
        x.process(1, 4, 6, 60006);
        x.process(1, 4, 7, 65535);
        dueAnswer(x, 4, 6, 2, 0, 65535L << 16 | 60006);
        dueAnswer(x, 4, 4, 4, 0, 0xFFFF_EA66_0000_0000L);
        for (int k = 0; k < 4; k++) {
            x.process(1, 4, k, 65535);
        }
        dueAnswer(x, 4, 0, 4, 0, -1);
    }

    private static void echoes() {
        SerialPlant x = Plant.withSlaves(0);
        dueAnswer(x, 5, 3, 0, 0x1111_FF00L, 65280);
        dueAnswer(x, 5, 3, 0, 0, 0);
        dueAnswer(x, 6, 3, 0, -1, 65535);
        dueAnswer(x, 8, 0, 0, 0x7_8001L, 0x8001);
        dueAnswer(x, 8, 1, 0, 12, 12);
        dueAnswer(x, 22, 3, 0, 0x7777_7777_8001_F00FL, 0x8001_F00FL);
        dueAnswer(x, 22, 3, 0, -1, 0xFFFF_FFFFL);
    }

    private static void counts() {
        SerialPlant x = Plant.withSlaves(0);
        dueAnswer(x, 15, 2, 9, -1, 9);
        dueAnswer(x, 15, 0, 1, -1, 1);
        dueAnswer(x, 16, 5, 3, -1, 3);
    }

    private static void unknownFunctions() {
        for (int function = 1; function <= 127; function++) {
            boolean known = function <= 6 || function == 8 || function == 15 || function == 16 || function == 22;
            if (!known) {
                dueException(function, 0, 1, 0, 1);
            }
        }
        dueException(7, 65535, 0, -1, 1);
        dueException(127, 65535, 16, -1, 1);
    }

    private static void countsAndValuesComeBeforeAddresses() {
        for (int function : new int[] {1, 2, 3, 4, 15, 16}) {
            dueException(function, 65535, 0, -1, 3);
            dueException(function, 65535, 1, -1, 2);
        }
        for (int function : new int[] {3, 4, 16}) {
            dueException(function, 65535, 5, -1, 3);
        }
        dueException(5, 16, 0, 1, 3);
        dueException(5, 16, 0, 65280, 2);
    }

    private static void edgesOfCounts() {
        for (int function : new int[] {1, 2, 15}) {
            dueException(function, 0, 0, -1, 3);
            for (int count = 1; count <= 16; count++) {
                dueWell(function, 0, count, -1);
            }
        }
        for (int function : new int[] {3, 4, 16}) {
            dueException(function, 0, 0, -1, 3);
            for (int count = 1; count <= 16; count++) {
                if (count <= 4) {
                    dueWell(function, 0, count, -1);
                } else {
                    dueException(function, 0, count, -1, 3);
                }
            }
        }
        for (int count = 0; count <= 16; count++) {
            dueWell(5, 15, count, 65280);
            dueWell(6, 7, count, 1);
            dueWell(22, 7, count, 1);
            dueWell(8, 0, count, 1);
        }
    }

    private static void edgesOfAddresses() {
        for (int function : new int[] {1, 2, 15}) {
            dueWell(function, 15, 1, 0);
            dueException(function, 16, 1, -1, 2);
            dueException(function, 15, 2, -1, 2);
            dueWell(function, 8, 8, 0);
            dueException(function, 9, 8, -1, 2);
            dueException(function, 1, 16, -1, 2);
        }
        for (int function : new int[] {3, 4, 16}) {
            dueWell(function, 7, 1, 0);
            dueException(function, 8, 1, -1, 2);
            dueWell(function, 4, 4, 0);
            dueException(function, 5, 4, -1, 2);
        }
        dueWell(5, 15, 0, 0);
        dueException(5, 16, 0, 0, 2);
        dueException(5, 65535, 0, 65280, 2);
        dueException(6, 8, 0, 1, 2);
        dueException(6, 65535, 0, 1, 2);
        dueException(22, 8, 0, 0xFFFF_0000L, 2);
        dueException(22, 65535, 0, 0xFFFF_0000L, 2);
    }

    private static void values() {
        for (long value : new long[] {1, 255, 256, 65279, 65281, 65535, -1, 0x1_0001L}) {
            dueException(5, 0, 0, value, 3);
        }
        for (int kind : new int[] {2, 3, 5, 16, 256, 1024, 65535}) {
            dueException(8, kind, 0, 0, 3);
        }
        dueWell(8, 0, 0, -1);
        dueWell(8, 1, 0, -1);
    }

    private static void anAnswerIsOfItsSending() {
        SerialPlant x = Plant.withSlaves(2);
        x.process(1, 4, 0, 5);
        x.request(1, 4, 0, 1, 0);
        x.process(1, 4, 0, 6);
        x.tick();
        x.process(1, 4, 0, 7);
        Plant.dueReply(x, 0, 0, 0, 0);
        Plant.ticks(x, 2);
        Plant.dueReply(x, 0, 1, 0, 6);
        Plant.ticks(x, 9);
        Plant.dueReply(x, 0, 1, 0, 6);
    }
}
