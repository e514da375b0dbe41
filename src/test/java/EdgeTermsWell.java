/** "Terms", when a request is well: every edge, their order, and that nothing is done beyond them. */
public final class EdgeTermsWell {
    private static final int[] OF_BITS = {1, 2, 15};
    private static final int[] OF_WORDS = {3, 4, 16};
    /** Requests that are not well: function, address, count, value. */
    private static final long[][] UNWELL = {
        {7, 0, 1, -1}, {1, 0, 0, -1}, {1, 1, 16, 0}, {2, 0, 0, 0}, {2, 15, 2, 0}, {3, 0, 0, 0}, {3, 0, 5, 0},
        {3, 5, 4, 0}, {4, 0, 16, 0}, {4, 8, 1, 0}, {5, 0, 0, 255}, {5, 16, 0, 0}, {6, 8, 0, 0}, {6, 65535, 0, 0},
        {22, 8, 0, 0}, {22, 65535, 0, 0}, {15, 0, 0, 0}, {15, 1, 16, 0}, {15, 15, 2, 0}, {16, 0, 0, 0},
        {16, 0, 5, 0}, {16, 0, 16, 0}, {16, 5, 4, 0}, {16, 7, 2, 0}, {16, 8, 1, 0}, {8, 2, 0, 0}, {8, 5, 0, 0},
    };

    public static void main(String[] args) {
        Due.holds("A request is well when none of these holds, in this order", EdgeTermsWell::inThisOrder);
        Due.holds("otherwise nothing is done, and the answer has, instead, the function plus 128 and one byte, the number"
            + " said", EdgeTermsWell::nothingIsDone);
        Due.holds("1 if its function is none of the above", EdgeTermsWell::noSuchFunction);
        Due.holds("3 if the count is not 1 .. 16 (for 1, 2, 15)", EdgeTermsWell::countsOfBits);
        Due.holds("or not 1 .. 4 (for 3, 4, 16)", EdgeTermsWell::countsOfWords);
        Due.holds("the word is neither 0 nor 65280 (5)", EdgeTermsWell::wordsForACoil);
        Due.holds("or the kind is not 0, 1 or 4 (8)", EdgeTermsWell::kindsOfDiagnosis);
        Due.holds("2 if address + count is more than 16 (1, 2, 15)", EdgeTermsWell::spansOfBits);
        Due.holds("or 8 (3, 4, 16)", EdgeTermsWell::spansOfWords);
        Due.holds("or the address more than 15 (5)", EdgeTermsWell::addressOfACoil);
        Due.holds("or 7 (6, 22)", EdgeTermsWell::addressOfAHolding);
        Due.end();
    }

    /** Slave 1 with all coils and inputs 1 and all holdings and measures 4660, so that any change shows. */
    private static SerialPlant filled() {
        SerialPlant x = Plant.withSlaves(0);
        x.request(1, 15, 0, 16, -1);
        x.request(1, 16, 0, 4, 0x1234_1234_1234_1234L);
        x.request(1, 16, 4, 4, 0x1234_1234_1234_1234L);
        Plant.ticks(x, 3);
        for (int k = 0; k < 16; k++) {
            x.process(1, 2, k, 1);
        }
        for (int k = 0; k < 8; k++) {
            x.process(1, 4, k, 0x1234);
        }
        return x;
    }

    /** The exception is answered, or none when it is 0. */
    private static void due(int function, int address, int count, long value, int exception) {
        SerialPlant x = Plant.withSlaves(0);
        int n = x.request(1, function, address, count, value);
        x.tick();
        String request = "request(1, " + function + ", " + address + ", " + count + ", " + value + "): ";
        Due.is(request + "reply(0, 0)", x.reply(n, 0), exception == 0 ? 1 : 2);
        Due.is(request + "reply(0, 1)", x.reply(n, 1), exception);
        Due.is(request + "wire(0, true, 1)", x.wire(0, true, 1), exception == 0 ? function : function + 128);
        if (exception != 0) {
            Due.is(request + "reply(0, 2)", x.reply(n, 2), 0);
            Plant.dueFrame(x, 0, true, 1, function + 128, exception);
        }
    }

    private static void inThisOrder() {
        due(7, 65535, 0, -1, 1);
        due(17, 65535, 16, 1, 1);
        for (int function : OF_BITS) {
            due(function, 17, 0, -1, 3);
            due(function, 16, 0, -1, 3);
            due(function, 65535, 0, -1, 3);
        }
        for (int function : OF_WORDS) {
            due(function, 9, 0, -1, 3);
            due(function, 8, 5, -1, 3);
            due(function, 7, 5, -1, 3);
            due(function, 65535, 16, -1, 3);
        }
        due(5, 16, 0, 1, 3);
        due(5, 65535, 0, 65281, 3);
    }

    private static void nothingIsDone() {
        for (long[] u : UNWELL) {
            SerialPlant x = filled();
            String request = "after function " + u[0] + " at " + u[1] + ", count " + u[2] + ": ";
            x.request(1, (int) u[0], (int) u[1], (int) u[2], u[3]);
            x.tick();
            Due.is(request + "reply(3, 0)", x.reply(3, 0), 2);
            Due.is(request + "bytes of the answer", x.wire(0, true, -1), 5);
            Due.is(request + "wire(0, true, 0)", x.wire(0, true, 0), 1);
            Due.is(request + "wire(0, true, 1)", x.wire(0, true, 1), u[0] + 128);
            Due.is(request + "wire(0, true, 2)", x.wire(0, true, 2), x.reply(3, 1));
            dueFilled(request, x);
        }
        // The same of a broadcast, but that nobody answers.
        for (long[] u : UNWELL) {
            SerialPlant x = filled();
            String request = "after a broadcast of function " + u[0] + " at " + u[1] + ", count " + u[2] + ": ";
            x.request(0, (int) u[0], (int) u[1], (int) u[2], u[3]);
            Plant.ticks(x, 3);
            Due.is(request + "reply(3, 0)", x.reply(3, 0), 3);
            dueFilled(request, x);
        }
    }

    /** Slave 1 is as it was filled, and not in listen-only mode. */
    private static void dueFilled(String request, SerialPlant x) {
        for (int k = 0; k < 16; k++) {
            Due.is(request + "cell(1, 1, " + k + ")", x.cell(1, 1, k), 1);
            Due.is(request + "cell(1, 2, " + k + ")", x.cell(1, 2, k), 1);
        }
        for (int k = 0; k < 8; k++) {
            Due.is(request + "cell(1, 3, " + k + ")", x.cell(1, 3, k), 0x1234);
            Due.is(request + "cell(1, 4, " + k + ")", x.cell(1, 4, k), 0x1234);
        }
        int n = x.request(1, 8, 0, 0, 5);
        x.tick();
        Due.is(request + "the slave still speaks: reply(" + n + ", 2)", x.reply(n, 2), 5);
    }

    private static void noSuchFunction() {
        for (int function = 1; function <= 127; function++) {
            boolean known = function <= 6 || function == 8 || function == 15 || function == 16 || function == 22;
            due(function, 0, 1, 0, known ? 0 : 1);
        }
    }

    private static void countsOfBits() {
        for (int function : OF_BITS) {
            for (int count = 0; count <= 16; count++) {
                due(function, 0, count, 0, count == 0 ? 3 : 0);
            }
        }
    }

    private static void countsOfWords() {
        for (int function : OF_WORDS) {
            for (int count = 0; count <= 16; count++) {
                due(function, 0, count, 0, count >= 1 && count <= 4 ? 0 : 3);
            }
        }
    }

    private static void wordsForACoil() {
        for (int word : new int[] {0, 1, 2, 127, 128, 254, 255, 256, 32768, 65279, 65280, 65281, 65535}) {
            due(5, 0, 0, word, word == 0 || word == 65280 ? 0 : 3);
        }
        due(5, 0, 0, 0xFF00_FF00_FF00_0001L, 3);
        due(5, 0, 0, 0x0001_0000L, 0);
        due(5, 0, 0, 0x8000_0000_0000_FF00L, 0);
        due(5, 0, 0, 0xFF00_0000_0000_0000L, 0);
    }

    private static void kindsOfDiagnosis() {
        for (int kind : new int[] {0, 1, 2, 3, 5, 6, 8, 255, 256, 257, 260, 65532, 65535}) {
            due(8, kind, 0, 0, kind == 0 || kind == 1 ? 0 : 3);
        }
        // Kind 4 is well, but in listen-only mode nobody hears that.
        SerialPlant x = Plant.withSlaves(0);
        x.request(1, 8, 4, 0, 0);
        x.tick();
        Due.is("wire(0, true, -1) after kind 4", x.wire(0, true, -1), 0);
    }

    private static void spansOfBits() {
        for (int function : OF_BITS) {
            for (int count = 1; count <= 16; count++) {
                due(function, 16 - count, count, 0, 0);
                due(function, 17 - count, count, 0, 2);
                due(function, 65535, count, 0, 2);
            }
            due(function, 16, 1, 0, 2);
        }
    }

    private static void spansOfWords() {
        for (int function : OF_WORDS) {
            for (int count = 1; count <= 4; count++) {
                due(function, 8 - count, count, 0, 0);
                due(function, 9 - count, count, 0, 2);
                due(function, 65535, count, 0, 2);
            }
            due(function, 8, 1, 0, 2);
        }
    }

    private static void addressOfACoil() {
        for (int count : new int[] {0, 1, 2, 16}) {
            due(5, 15, count, 65280, 0);
            due(5, 15, count, 0, 0);
            due(5, 16, count, 65280, 2);
            due(5, 16, count, 0, 2);
            due(5, 65535, count, 0, 2);
        }
    }

    private static void addressOfAHolding() {
        for (int function : new int[] {6, 22}) {
            for (int count : new int[] {0, 1, 2, 16}) {
                due(function, 7, count, -1, 0);
                due(function, 8, count, -1, 2);
                due(function, 15, count, -1, 2);
                due(function, 65535, count, -1, 2);
            }
        }
    }
}
