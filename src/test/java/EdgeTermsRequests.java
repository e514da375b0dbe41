/** "Terms", requests: the edges of their parts, and of what each function does. */
public final class EdgeTermsRequests {
    public static void main(String[] args) {
        Due.holds("REQUESTS have a unit 0 .. 247, a function 1 .. 127, an ADDRESS 0 .. 65535, a COUNT 0 .. 16,"
            + " and a VALUE, a long.", EdgeTermsRequests::partsOfARequest);
        Due.holds("Word k of the value is its bits 16 * (k mod 4) to 16 * (k mod 4) + 15", EdgeTermsRequests::wordsOfTheValue);
        Due.holds("bit k its bit k", EdgeTermsRequests::bitsOfTheValue);
        Due.holds("Answer: a byte n, the least whole number not less than count / 8, and n bytes",
            EdgeTermsRequests::bytesOfBits);
        Due.holds("bit i of byte j is that of table place address + 8 * j + i", EdgeTermsRequests::placesOfBits);
        Due.holds("and 0 beyond the count.", EdgeTermsRequests::zeroBeyondTheCount);
        Due.holds("3 reads holdings, 4 reads measures: address, count.      Answer: a byte, 2 * count, and the words.",
            EdgeTermsRequests::wordsRead);
        Due.holds("65280 makes the coil 1, 0 makes it 0.", EdgeTermsRequests::coilWritten);
        Due.holds("6 writes a holding: address, word 0 of the value.", EdgeTermsRequests::holdingWritten);
        Due.holds("the holding h becomes (h & a) | (o & ~a).", EdgeTermsRequests::holdingMasked);
        Due.holds("The answers of 5, 6 and 22 are as the request.", EdgeTermsRequests::answersAsTheRequest);
        Due.holds("15 writes coils: address, count, a byte n as for 1, and n bytes with the bits of the value,"
            + " 0 beyond the count.", EdgeTermsRequests::coilsWritten);
        Due.holds("16 writes holdings: address, count, a byte 2 * count, and the words of the value.",
            EdgeTermsRequests::holdingsWritten);
        Due.holds("Answers of 15 and 16: address, count.", EdgeTermsRequests::answersOfWritesOfMany);
        Due.holds("8 diagnoses: the address (which is its kind here), and word 0 of the value.",
            EdgeTermsRequests::diagnosisSent);
        Due.holds("Kind 0: nothing is done. 1: the slave is in listen-only mode no more."
            + " 4: it is in listen-only mode now.", EdgeTermsRequests::kinds);
        Due.holds("All others: nothing more.", EdgeTermsRequests::othersHaveNothingMore);
        Due.end();
    }

    private static void send(SerialPlant x, int function, int address, int count, long value) {
        x.request(1, function, address, count, value);
        x.tick();
    }

    private static SerialPlant sent(int function, int address, int count, long value) {
        SerialPlant x = Plant.withSlaves(0);
        send(x, function, address, count, value);
        return x;
    }

    private static int coilsOf(SerialPlant x) {
        int bits = 0;
        for (int k = 0; k < 16; k++) {
            bits |= x.cell(1, 1, k) << k;
        }
        return bits;
    }

    private static void dueHoldings(SerialPlant x, int... words) {
        for (int k = 0; k < 8; k++) {
            Due.is("cell(1, 3, " + k + ")", x.cell(1, 3, k), words[k]);
        }
    }

    private static void partsOfARequest() {
        SerialPlant x = Plant.withSlaves(0);
        int n = 0;
        for (int unit : new int[] {-1, 0, 247, 248}) {
            boolean is = unit == 0 || unit == 247;
            Due.is("request(" + unit + ", 3, 0, 1, 0)", x.request(unit, 3, 0, 1, 0), is ? n++ : -1);
        }
        for (int function : new int[] {0, 1, 127, 128}) {
            boolean is = function == 1 || function == 127;
            Due.is("request(1, " + function + ", 0, 1, 0)", x.request(1, function, 0, 1, 0), is ? n++ : -1);
        }
        for (int address : new int[] {-1, 0, 65535, 65536}) {
            boolean is = address == 0 || address == 65535;
            Due.is("request(2, 3, " + address + ", 1, 0)", x.request(2, 3, address, 1, 0), is ? n++ : -1);
        }
        for (int count : new int[] {-1, 0, 16, 17}) {
            boolean is = count == 0 || count == 16;
            Due.is("request(9, 3, 0, " + count + ", 0)", x.request(9, 3, 0, count, 0), is ? n++ : -1);
        }
        for (long value : new long[] {Long.MIN_VALUE, -1, 0, Long.MAX_VALUE}) {
            Due.is("request(9, 6, 0, 1, " + value + ")", x.request(9, 6, 0, 1, value), n++);
        }
    }

    private static void wordsOfTheValue() {
        SerialPlant x = sent(16, 0, 4, 0x8000_7FFF_0001_FFFFL);
        dueHoldings(x, 0xFFFF, 0x0001, 0x7FFF, 0x8000, 0, 0, 0, 0);
        x = sent(16, 4, 4, Long.MIN_VALUE);
        dueHoldings(x, 0, 0, 0, 0, 0, 0, 0, 0x8000);
        x = sent(6, 0, 0, 0x8000_7FFF_0001_FFFEL);
        dueHoldings(x, 0xFFFE, 0, 0, 0, 0, 0, 0, 0);
        // Word 4 is word 0 again, and so on up to word 15, which is word 3.
        for (int count = 4; count <= 16; count++) {
            x = sent(16, 0, count, 0x8304_8203_8102_8001L);
            for (int k = 0; k < count; k++) {
                Due.is("higher byte of word " + k + " of " + count, x.wire(0, false, 7 + 2 * k), 0x80 + k % 4);
                Due.is("lower byte of word " + k + " of " + count, x.wire(0, false, 8 + 2 * k), 1 + k % 4);
            }
            Due.is("bytes of " + count + " words", x.wire(0, false, -1), 9 + 2 * count);
        }
    }

    private static void bitsOfTheValue() {
        for (int k = 0; k < 16; k++) {
            Due.is("coils after bit " + k, coilsOf(sent(15, 0, 16, 1L << k)), 1 << k);
        }
        Due.is("coils after bits from 16 on", coilsOf(sent(15, 0, 16, -65536L)), 0);
        Due.is("coils after all bits", coilsOf(sent(15, 0, 16, -1L)), 65535);
    }

    private static void bytesOfBits() {
        for (int function = 1; function <= 2; function++) {
            for (int count = 1; count <= 16; count++) {
                SerialPlant x = sent(function, 0, count, 0);
                int n = count <= 8 ? 1 : 2;
                Due.is("bytes told for " + count, x.wire(0, true, 2), n);
                Due.is("bytes of the answer for " + count, x.wire(0, true, -1), 5 + n);
            }
        }
    }

    private static void placesOfBits() {
        for (int place = 0; place < 16; place++) {
            SerialPlant x = Plant.withSlaves(0);
            x.process(1, 2, place, 1);
            send(x, 5, place, 0, 65280);
            for (int function = 1; function <= 2; function++) {
                send(x, function, 0, 16, 0);
                Plant.dueFrame(x, 0, true, 1, function, 2, 1 << place & 255, 1 << place >> 8);
                send(x, function, place, 1, 0);
                Plant.dueFrame(x, 0, true, 1, function, 1, 1);
                int from = place < 5 ? 0 : place - 5;
                send(x, function, from, 11, 0);
                int bit = 1 << place - from;
                if (from + 11 <= 16) {
                    Plant.dueFrame(x, 0, true, 1, function, 2, bit & 255, bit >> 8);
                } else {
                    Plant.dueFrame(x, 0, true, 1, function + 128, 2);
                }
            }
        }
    }

    private static void zeroBeyondTheCount() {
        for (int count = 1; count <= 16; count++) {
            SerialPlant x = sent(15, 0, 16, -1);
            for (int place = 0; place < 16; place++) {
                x.process(1, 2, place, 1);
            }
            int bits = (1 << count) - 1;
            for (int function = 1; function <= 2; function++) {
                send(x, function, 0, count, -1);
                Due.is("byte 0 for " + count, x.wire(0, true, 3), bits & 255);
                if (count > 8) {
                    Due.is("byte 1 for " + count, x.wire(0, true, 4), bits >> 8);
                }
                Due.is("reply for " + count, x.reply(function, 2), bits);
            }
        }
    }

    private static void wordsRead() {
        for (int count = 1; count <= 4; count++) {
            SerialPlant x = Plant.withSlaves(0);
            int from = 8 - count;
            int[] body = new int[3 + 2 * count];
            body[0] = 1;
            body[2] = 2 * count;
            for (int k = 0; k < count; k++) {
                x.process(1, 4, from + k, 0xFF00 - k);
                send(x, 6, from + k, 0, 0xFF00 - k);
                body[3 + 2 * k] = (0xFF00 - k) >> 8;
                body[4 + 2 * k] = (0xFF00 - k) & 255;
            }
            for (int function = 3; function <= 4; function++) {
                send(x, function, from, count, -1);
                body[1] = function;
                Plant.dueFrame(x, 0, false, 1, function, 0, from, 0, count);
                Plant.dueFrame(x, 0, true, body);
            }
        }
    }

    private static void coilWritten() {
        for (int address : new int[] {0, 7, 8, 15}) {
            SerialPlant x = sent(5, address, 0, 65280);
            Due.is("coils after 65280 at " + address, coilsOf(x), 1 << address);
            send(x, 5, address, 0, 65280);
            Due.is("coils after 65280 again", coilsOf(x), 1 << address);
            for (long not : new long[] {1, 255, 65279, 65281, 65535}) {
                send(x, 5, address, 0, not);
                Due.is("coils after " + not, coilsOf(x), 1 << address);
            }
            send(x, 5, address, 0, 0xFFFF_FFFF_FFFF_0000L);
            Due.is("coils after word 0 is 0", coilsOf(x), 0);
            send(x, 5, address, 0, 0x7FFF_FFFF_FFFF_FF00L);
            Due.is("coils after word 0 is 65280", coilsOf(x), 1 << address);
        }
    }

    private static void holdingWritten() {
        dueHoldings(sent(6, 0, 0, 65535), 65535, 0, 0, 0, 0, 0, 0, 0);
        SerialPlant x = sent(6, 7, 16, -1);
        dueHoldings(x, 0, 0, 0, 0, 0, 0, 0, 65535);
        send(x, 6, 7, 0, 0x1_0000L);
        dueHoldings(x, 0, 0, 0, 0, 0, 0, 0, 0);
    }

    private static void holdingMasked() {
        int[] words = {0, 1, 0x00FF, 0x5A5A, 0x7FFF, 0x8000, 0xFF00, 65535};
        for (int h : words) {
            for (int a : words) {
                SerialPlant x = Plant.withSlaves(0);
                for (int o : words) {
                    send(x, 6, 7, 0, h);
                    send(x, 22, 7, 0, (long) o << 16 | a);
                    int due = 0;
                    for (int bit = 0; bit < 16; bit++) {
                        due |= ((a >> bit & 1) == 1 ? h >> bit & 1 : o >> bit & 1) << bit;
                    }
                    Due.is("holding " + h + " masked by " + a + " and " + o, x.cell(1, 3, 7), due);
                }
            }
        }
        SerialPlant x = sent(22, 0, 0, 0x7777_7777_FFFF_0000L);
        dueHoldings(x, 65535, 0, 0, 0, 0, 0, 0, 0);
    }

    private static void answersAsTheRequest() {
        for (int function : new int[] {5, 6, 22}) {
            for (long value : new long[] {0, 65280, 0xFFFF_FF00L, 0x8000_0000_0001_FF00L}) {
                SerialPlant x = sent(function, 7, 16, value);
                int bytes = function == 22 ? 10 : 8;
                for (int k = -1; k <= bytes; k++) {
                    int due = k == -1 ? bytes : x.wire(0, false, k);
                    Due.is("function " + function + ": wire(0, true, " + k + ")", x.wire(0, true, k), due);
                }
                Due.is("function " + function + ": wire(0, false, -1)", x.wire(0, false, -1), bytes);
            }
        }
    }

    private static void coilsWritten() {
        for (int count = 0; count <= 16; count++) {
            SerialPlant x = sent(15, 16 - count, count, -1);
            int bits = (1 << count) - 1;
            if (count == 0) {
                Plant.dueFrame(x, 0, false, 1, 15, 0, 16, 0, 0, 0);
            } else if (count <= 8) {
                Plant.dueFrame(x, 0, false, 1, 15, 0, 16 - count, 0, count, 1, bits);
            } else {
                Plant.dueFrame(x, 0, false, 1, 15, 0, 16 - count, 0, count, 2, 255, bits >> 8);
            }
            Due.is("coils after " + count + " ones", coilsOf(x), bits << 16 - count & 65535);
        }
        for (int count = 1; count <= 16; count++) {
            SerialPlant x = sent(15, 0, 16, -1);
            send(x, 15, 0, count, 0);
            Due.is("coils after " + count + " zeros", coilsOf(x), 65535 & -(1 << count));
        }
    }

    private static void holdingsWritten() {
        for (int count = 0; count <= 16; count++) {
            SerialPlant x = sent(16, 0, count, 0xF004_F003_F002_F001L);
            Due.is("byte 6 for " + count, x.wire(0, false, 6), 2 * count);
            Due.is("bytes for " + count, x.wire(0, false, -1), 9 + 2 * count);
            for (int k = 0; k < 8; k++) {
                boolean written = count <= 4 && k < count;
                Due.is("count " + count + ": cell(1, 3, " + k + ")", x.cell(1, 3, k), written ? 0xF001 + k : 0);
            }
        }
        SerialPlant x = sent(16, 0, 4, -1);
        send(x, 16, 4, 4, -1);
        send(x, 16, 3, 2, 0);
        dueHoldings(x, 65535, 65535, 65535, 0, 0, 65535, 65535, 65535);
    }

    private static void answersOfWritesOfMany() {
        Plant.dueFrame(sent(15, 0, 16, -1), 0, true, 1, 15, 0, 0, 0, 16);
        Plant.dueFrame(sent(15, 15, 1, -1), 0, true, 1, 15, 0, 15, 0, 1);
        Plant.dueFrame(sent(16, 0, 1, -1), 0, true, 1, 16, 0, 0, 0, 1);
        Plant.dueFrame(sent(16, 4, 4, -1), 0, true, 1, 16, 0, 4, 0, 4);
    }

    private static void diagnosisSent() {
        Plant.dueFrame(sent(8, 0, 16, -1), 0, false, 1, 8, 0, 0, 255, 255);
        Plant.dueFrame(sent(8, 0, 16, -1), 0, true, 1, 8, 0, 0, 255, 255);
        Plant.dueFrame(sent(8, 1, 0, 0x1_0000L), 0, true, 1, 8, 0, 1, 0, 0);
        Plant.dueFrame(sent(8, 65535, 0, 0x00FF), 0, false, 1, 8, 255, 255, 0, 255);
        Plant.dueFrame(sent(8, 4, 0, 0x0102), 0, false, 1, 8, 0, 4, 1, 2);
    }

    private static void kinds() {
        SerialPlant x = sent(8, 4, 0, 0);
        Plant.ticks(x, 9);
        Due.is("reply(0, 1) of kind 4", x.reply(0, 1), 11);
        send(x, 8, 0, 0, 0);
        Plant.ticks(x, 9);
        Due.is("reply(1, 1) of kind 0 in listen-only mode", x.reply(1, 1), 11);
        send(x, 6, 0, 0, 1);
        Due.is("cell(1, 3, 0) in listen-only mode", x.cell(1, 3, 0), 0);
        Plant.ticks(x, 9);
        send(x, 8, 1, 0, 0);
        Due.is("reply(3, 0) of kind 1", x.reply(3, 0), 0);
        Plant.ticks(x, 3);
        Due.is("reply(3, 0) of kind 1, tried again", x.reply(3, 0), 1);
        send(x, 8, 0, 0, 0);
        Due.is("reply(4, 0) of kind 0", x.reply(4, 0), 1);
        send(x, 6, 0, 0, 2);
        Due.is("cell(1, 3, 0)", x.cell(1, 3, 0), 2);
        // Kinds beside those three leave the mode as it is.
        for (int kind : new int[] {2, 3, 5, 257, 260, 65535}) {
            send(x, 8, kind, 0, 0);
            send(x, 8, 0, 0, kind);
            Due.is("reply after kind " + kind, x.reply(x.request(9, 1, 0, 0, 0) - 1, 0), 1);
        }
    }

    private static void othersHaveNothingMore() {
        for (int function = 1; function <= 127; function++) {
            boolean known = function <= 6 || function == 8 || function == 15 || function == 16 || function == 22;
            if (!known) {
                Plant.dueFrame(sent(function, 65535, 16, -1), 0, false, 1, function);
            } else {
                int bytes = sent(function, 0, 1, -1).wire(0, false, -1);
                Due.yes("function " + function + " has more than its unit and function", bytes >= 8);
            }
        }
    }
}
