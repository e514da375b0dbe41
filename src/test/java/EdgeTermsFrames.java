/** "Terms", frames: the bytes, the words in them, the sum, and damage. */
public final class EdgeTermsFrames {
    public static void main(String[] args) {
        Due.holds("A FRAME is a row of bytes, each 0 .. 255", EdgeTermsFrames::bytesFromZeroTo255);
        Due.holds("words stand in it with the higher byte first", EdgeTermsFrames::higherByteFirst);
        Due.holds("It begins with the UNIT (1 byte) and the FUNCTION (1 byte)", EdgeTermsFrames::unitAndFunctionFirst);
        Due.holds("ends with its SUM, a word that stands with the LOWER byte first", EdgeTermsFrames::lowerByteOfTheSumFirst);
        Due.holds("c is 65535 at first; for each byte before the sum, c becomes c ^ byte, and then, eight times:"
            + " if the lowest bit of c is 1, c becomes (c >> 1) ^ 40961,", EdgeTermsFrames::sumsOfShortAndLongFrames);
        Due.holds("else c >> 1.", EdgeTermsFrames::sumsWithBytesAtTheirEdges);
        Due.holds("A DAMAGED frame is one of which one bit was turned; whoever gets it drops it.",
            EdgeTermsFrames::damagedFramesAreDropped);
        Due.end();
    }

    private static SerialPlant sent(int function, int address, int count, long value) {
        SerialPlant x = Plant.withSlaves(0);
        x.request(1, function, address, count, value);
        x.tick();
        return x;
    }

    private static void bytesFromZeroTo255() {
        SerialPlant x = sent(6, 65535, 0, -1);
        for (int k = 2; k <= 5; k++) {
            Due.is("wire(0, false, " + k + ")", x.wire(0, false, k), 255);
        }
        x = sent(6, 0, 0, 0);
        for (int k = 2; k <= 5; k++) {
            Due.is("wire(0, false, " + k + ")", x.wire(0, false, k), 0);
        }
        x = sent(127, 0, 0, 0);
        Due.is("wire(0, true, 1)", x.wire(0, true, 1), 255);
        SerialPlant y = Plant.withSlaves(0);
        for (int value = 0; value <= 15; value++) {
            y.request(1, 6, 0, 0, value * 0x1111);
            y.tick();
            for (int k = -1; k < 8; k++) {
                int b = y.wire(0, true, k);
                Due.yes("wire(0, true, " + k + "), which is " + b + ", is 0 .. 255", b >= 0 && b <= 255);
            }
        }
    }

    private static void higherByteFirst() {
        SerialPlant x = sent(6, 0x0007, 0, 0x0100);
        Plant.dueFrame(x, 0, false, 1, 6, 0, 7, 1, 0);
        Plant.dueFrame(x, 0, true, 1, 6, 0, 7, 1, 0);
        x = sent(3, 0x0100, 1, 0);
        Plant.dueFrame(x, 0, false, 1, 3, 1, 0, 0, 1);
        x = sent(16, 0, 2, 0x0304_0102L);
        Plant.dueFrame(x, 0, false, 1, 16, 0, 0, 0, 2, 4, 1, 2, 3, 4);
        x.request(1, 3, 0, 2, 0);
        x.tick();
        Plant.dueFrame(x, 0, true, 1, 3, 4, 1, 2, 3, 4);
        x = sent(22, 0x00FF, 0, 0x0304_0102L);
        Plant.dueFrame(x, 0, false, 1, 22, 0, 255, 1, 2, 3, 4);
    }

    private static void unitAndFunctionFirst() {
        for (int unit = 0; unit <= 6; unit++) {
            for (int function : new int[] {1, 6, 22, 127}) {
                SerialPlant x = new SerialPlant();
                for (int slave = 1; slave <= 6; slave++) {
                    x.attach(slave, 0, 0);
                }
                x.request(unit, function, 0, 1, 0);
                x.tick();
                Due.is("wire(0, false, 0) of unit " + unit, x.wire(0, false, 0), unit);
                Due.is("wire(0, false, 1) of function " + function, x.wire(0, false, 1), function);
                Due.is("wire(0, true, 0) of unit " + unit, x.wire(0, true, 0), unit == 0 ? -1 : unit);
            }
        }
    }

    private static void dueSum(SerialPlant x, boolean answer, int at, int lower, int higher) {
        Due.is("wire(0, " + answer + ", " + at + ")", x.wire(0, answer, at), lower);
        Due.is("wire(0, " + answer + ", " + (at + 1) + ")", x.wire(0, answer, at + 1), higher);
        Due.none("wire(0, " + answer + ", " + (at + 2) + ")", x.wire(0, answer, at + 2));
    }

    /** Sums that are well known from elsewhere, so that they don't hang on a second writing of the rule. */
    private static void lowerByteOfTheSumFirst() {
        dueSum(sent(3, 0, 10, 0), false, 6, 0xC5, 0xCD);
        dueSum(sent(6, 2, 0, 513), false, 6, 232, 170);
        dueSum(sent(3, 0, 1, 0), false, 6, 0x84, 0x0A);
        dueSum(sent(5, 0, 0, 65280), true, 6, 0x8C, 0x3A);
        dueSum(sent(3, 0, 2, 0), false, 6, 0xC4, 0x0B);
        dueSum(sent(1, 0, 0, 0), true, 3, 0x00, 0x51);
        dueSum(sent(3, 8, 1, 0), true, 3, 0xC0, 0xF1);
    }

    private static void sumsOfShortAndLongFrames() {
        Plant.dueFrame(sent(7, 9, 16, -1), 0, false, 1, 7);
        Plant.dueFrame(sent(127, 9, 16, -1), 0, false, 1, 127);
        int[] longest = new int[39];
        int[] head = {1, 16, 255, 255, 0, 16, 32};
        System.arraycopy(head, 0, longest, 0, head.length);
        for (int k = 0; k < 16; k++) {
            longest[7 + 2 * k] = 0xF0 + k % 4;
            longest[8 + 2 * k] = 0x0F;
        }
        Plant.dueFrame(sent(16, 65535, 16, 0xF30F_F20F_F10F_F00FL), 0, false, longest);
    }

    private static void sumsWithBytesAtTheirEdges() {
        for (int word : new int[] {0, 1, 127, 128, 255, 256, 32767, 32768, 65279, 65280, 65534, 65535}) {
            SerialPlant x = sent(6, word, 0, 65535 - word);
            Plant.dueFrame(x, 0, false, 1, 6, word >> 8, word & 255, (65535 - word) >> 8, (65535 - word) & 255);
        }
        // The sums of these frames have a lower or a higher byte of 0 or of 255.
        dueSums(1, 0, 0);
        dueSums(1, 255, 0);
        dueSums(0, 0, 8);
        dueSums(0, 255, 8);
    }

    /** Finds a word whose frame's sum has the byte, by the second way of summing, and sends it. */
    private static void dueSums(int address, int wanted, int shift) {
        for (int word = 0; word <= 65535; word++) {
            int[] body = {1, 6, 0, address, word >> 8, word & 255};
            if ((Plant.sumOf(body) >> 8 - shift & 255) == wanted) {
                Plant.dueFrame(sent(6, address, 0, word), 0, false, body);
                Plant.dueFrame(sent(6, address, 0, word), 0, true, body);
                return;
            }
        }
        Due.yes("a frame was found", false);
    }

    private static void damagedFramesAreDropped() {
        SerialPlant x = Plant.withSlaves(0);
        x.fault(0, false, 0);
        x.fault(1, true, 0);
        x.request(1, 6, 0, 0, 5);
        x.request(2, 6, 0, 0, 5);
        x.tick();
        Due.is("cell(1, 3, 0): the slave dropped the request", x.cell(1, 3, 0), 0);
        Due.is("cell(2, 3, 0)", x.cell(2, 3, 0), 5);
        for (int t = 1; t <= 3; t++) {
            Plant.dueReply(x, 0, 0, 0, 0);
            Plant.dueReply(x, 1, 0, 0, 0);
            x.tick();
        }
        Plant.dueReply(x, 0, 1, 0, 5);
        Plant.dueReply(x, 1, 1, 0, 5);
    }
}
