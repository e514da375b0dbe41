/** Promise 12: wire, with the frames of all functions and their answers. */
public final class Promise12Wire {
    public static void main(String[] args) {
        knownSums();
        answersNoneElsewhere();
        reads();
        writesOfOne();
        writesOfMany();
        writesThatAreNotWell();
        diagnoses();
        others();
        broadcasts();
        polls();
        keepsTheLatest();
        showsFramesBeforeTheDamage();
        Due.end();
    }

    private static void knownSums() {
        SerialPlant x = Plant.withSlaves(0);
        x.request(1, 6, 2, 0, 513);
        x.tick();
        Due.is("wire(0, false, 6)", x.wire(0, false, 6), 232);
        Due.is("wire(0, false, 7)", x.wire(0, false, 7), 170);
        x.request(1, 3, 0, 10, 0);
        x.tick();
        Due.is("wire(0, false, 6)", x.wire(0, false, 6), 0xC5);
        Due.is("wire(0, false, 7)", x.wire(0, false, 7), 0xCD);
    }

    private static void answersNoneElsewhere() {
        SerialPlant x = Plant.withSlaves(0);
        for (boolean answer : new boolean[] {false, true}) {
            Due.is("wire(0, " + answer + ", -1)", x.wire(0, answer, -1), 0);
            Due.none("wire(0, " + answer + ", 0)", x.wire(0, answer, 0));
        }
        x.request(1, 16, 0, 4, 0);
        x.tick();
        for (boolean answer : new boolean[] {false, true}) {
            for (int line : new int[] {-1, 2, Integer.MIN_VALUE, Integer.MAX_VALUE}) {
                Due.none("wire(" + line + ", " + answer + ", 0)", x.wire(line, answer, 0));
                Due.none("wire(" + line + ", " + answer + ", -1)", x.wire(line, answer, -1));
            }
            for (int k : new int[] {-2, 17, 40, 41, 42, Integer.MIN_VALUE, Integer.MAX_VALUE}) {
                Due.none("wire(0, " + answer + ", " + k + ")", x.wire(0, answer, k));
            }
            Due.none("wire(1, " + answer + ", 0)", x.wire(1, answer, 0));
        }
    }

    private static void send(SerialPlant x, int function, int address, int count, long value) {
        x.request(1, function, address, count, value);
        x.tick();
    }

    private static void reads() {
        SerialPlant x = Plant.withSlaves(0);
        send(x, 15, 0, 16, 0xA5C3);
        send(x, 16, 0, 4, 0x8004_0302_0201_FFFEL);
        x.process(1, 2, 15, 1);
        x.process(1, 4, 3, 0x1234);
        send(x, 1, 1, 8, -1);
        Plant.dueFrame(x, 0, false, 1, 1, 0, 1, 0, 8);
        Plant.dueFrame(x, 0, true, 1, 1, 1, 0xE1);
        send(x, 1, 1, 9, -1);
        Plant.dueFrame(x, 0, false, 1, 1, 0, 1, 0, 9);
        Plant.dueFrame(x, 0, true, 1, 1, 2, 0xE1, 0);
        send(x, 1, 0, 16, -1);
        Plant.dueFrame(x, 0, true, 1, 1, 2, 0xC3, 0xA5);
        send(x, 2, 12, 4, -1);
        Plant.dueFrame(x, 0, false, 1, 2, 0, 12, 0, 4);
        Plant.dueFrame(x, 0, true, 1, 2, 1, 8);
        send(x, 3, 0, 4, -1);
        Plant.dueFrame(x, 0, false, 1, 3, 0, 0, 0, 4);
        Plant.dueFrame(x, 0, true, 1, 3, 8, 0xFF, 0xFE, 2, 1, 3, 2, 0x80, 4);
        send(x, 4, 3, 1, -1);
        Plant.dueFrame(x, 0, false, 1, 4, 0, 3, 0, 1);
        Plant.dueFrame(x, 0, true, 1, 4, 2, 0x12, 0x34);
        send(x, 4, 0xABCD, 16, -1);
        Plant.dueFrame(x, 0, false, 1, 4, 0xAB, 0xCD, 0, 16);
        Plant.dueFrame(x, 0, true, 1, 132, 3);
    }

    private static void writesOfOne() {
        SerialPlant x = Plant.withSlaves(0);
        send(x, 5, 9, 3, 0x7777_FF00L);
        Plant.dueFrame(x, 0, false, 1, 5, 0, 9, 255, 0);
        Plant.dueFrame(x, 0, true, 1, 5, 0, 9, 255, 0);
        send(x, 6, 5, 3, 0x7777_ABCDL);
        Plant.dueFrame(x, 0, false, 1, 6, 0, 5, 0xAB, 0xCD);
        Plant.dueFrame(x, 0, true, 1, 6, 0, 5, 0xAB, 0xCD);
        send(x, 22, 5, 3, 0x7777_4321_ABCDL);
        Plant.dueFrame(x, 0, false, 1, 22, 0, 5, 0xAB, 0xCD, 0x43, 0x21);
        Plant.dueFrame(x, 0, true, 1, 22, 0, 5, 0xAB, 0xCD, 0x43, 0x21);
    }

    private static void writesOfMany() {
        SerialPlant x = Plant.withSlaves(0);
        send(x, 15, 4, 3, -1);
        Plant.dueFrame(x, 0, false, 1, 15, 0, 4, 0, 3, 1, 7);
        Plant.dueFrame(x, 0, true, 1, 15, 0, 4, 0, 3);
        send(x, 15, 4, 8, -1);
        Plant.dueFrame(x, 0, false, 1, 15, 0, 4, 0, 8, 1, 255);
        send(x, 15, 4, 10, 0xFFFF_FEA5L);
        Plant.dueFrame(x, 0, false, 1, 15, 0, 4, 0, 10, 2, 0xA5, 2);
        send(x, 15, 0, 16, 0xFFFF_FEA5L);
        Plant.dueFrame(x, 0, false, 1, 15, 0, 0, 0, 16, 2, 0xA5, 0xFE);
        send(x, 16, 2, 3, 0x7777_0605_0403_0201L);
        Plant.dueFrame(x, 0, false, 1, 16, 0, 2, 0, 3, 6, 2, 1, 4, 3, 6, 5);
        Plant.dueFrame(x, 0, true, 1, 16, 0, 2, 0, 3);
        send(x, 16, 0, 4, 0xFFFE_0605_0403_0201L);
        Plant.dueFrame(x, 0, false, 1, 16, 0, 0, 0, 4, 8, 2, 1, 4, 3, 6, 5, 255, 254);
    }

    private static void writesThatAreNotWell() {
        SerialPlant x = Plant.withSlaves(0);
        send(x, 15, 0xABCD, 0, -1);
        Plant.dueFrame(x, 0, false, 1, 15, 0xAB, 0xCD, 0, 0, 0);
        Plant.dueFrame(x, 0, true, 1, 143, 3);
        send(x, 16, 0xABCD, 0, -1);
        Plant.dueFrame(x, 0, false, 1, 16, 0xAB, 0xCD, 0, 0, 0);
        Plant.dueFrame(x, 0, true, 1, 144, 3);
        int[] longest = new int[39];
        int[] head = {1, 16, 255, 255, 0, 16, 32};
        System.arraycopy(head, 0, longest, 0, head.length);
        for (int k = 0; k < 16; k++) {
            longest[7 + 2 * k] = 0x80 + k % 4;
            longest[8 + 2 * k] = k % 4 + 1;
        }
        send(x, 16, 65535, 16, 0x8304_8203_8102_8001L);
        Plant.dueFrame(x, 0, false, longest);
        Plant.dueFrame(x, 0, true, 1, 144, 3);
        send(x, 6, 65535, 0, 65535);
        Plant.dueFrame(x, 0, false, 1, 6, 255, 255, 255, 255);
        Plant.dueFrame(x, 0, true, 1, 134, 2);
        send(x, 5, 0x1234, 0, 0x5678);
        Plant.dueFrame(x, 0, false, 1, 5, 0x12, 0x34, 0x56, 0x78);
        Plant.dueFrame(x, 0, true, 1, 133, 3);
    }

    private static void diagnoses() {
        SerialPlant x = Plant.withSlaves(0);
        send(x, 8, 0, 5, 0x7_ABCD);
        Plant.dueFrame(x, 0, false, 1, 8, 0, 0, 0xAB, 0xCD);
        Plant.dueFrame(x, 0, true, 1, 8, 0, 0, 0xAB, 0xCD);
        send(x, 8, 0x0102, 5, 3);
        Plant.dueFrame(x, 0, false, 1, 8, 1, 2, 0, 3);
        Plant.dueFrame(x, 0, true, 1, 136, 3);
        send(x, 8, 4, 5, 3);
        Plant.dueFrame(x, 0, false, 1, 8, 0, 4, 0, 3);
        Plant.dueFrame(x, 0, true, 1, 136, 3);
    }

    private static void others() {
        for (int function : new int[] {7, 9, 14, 17, 21, 23, 127}) {
            SerialPlant x = Plant.withSlaves(0);
            send(x, function, 3, 5, -1);
            Plant.dueFrame(x, 0, false, 1, function);
            Plant.dueFrame(x, 0, true, 1, function + 128, 1);
        }
    }

    private static void broadcasts() {
        SerialPlant x = Plant.withSlaves(0);
        x.request(0, 5, 15, 0, 65280);
        x.tick();
        for (int line = 0; line < 2; line++) {
            Plant.dueFrame(x, line, false, 0, 5, 0, 15, 255, 0);
            Due.is("wire(" + line + ", true, -1)", x.wire(line, true, -1), 0);
        }
    }

    private static void polls() {
        SerialPlant x = Plant.withSlaves(0);
        x.process(2, 4, 7, 0xFEDC);
        x.point(2, 4, 7);
        Plant.ticks(x, 8);
        Plant.dueFrame(x, 1, false, 2, 4, 0, 7, 0, 1);
        Plant.dueFrame(x, 1, true, 2, 4, 2, 0xFE, 0xDC);
        Due.is("wire(0, false, -1)", x.wire(0, false, -1), 0);
    }

    private static void keepsTheLatest() {
        SerialPlant x = Plant.withSlaves(2);
        x.request(1, 3, 0, 1, 0);
        x.request(1, 7, 0, 0, 0);
        x.tick();
        Plant.dueFrame(x, 0, true, 1, 3, 2, 0, 0);
        Plant.ticks(x, 2);
        Plant.dueFrame(x, 0, false, 1, 7);
        Plant.dueFrame(x, 0, true, 1, 135, 1);
        x.request(0, 6, 0, 0, 1);
        Plant.ticks(x, 2);
        Plant.dueFrame(x, 0, false, 0, 6, 0, 0, 0, 1);
        Plant.dueFrame(x, 0, true, 1, 135, 1);
    }

    private static void showsFramesBeforeTheDamage() {
        SerialPlant x = Plant.withSlaves(0);
        x.fault(0, false, 0);
        x.fault(1, true, 8);
        x.request(1, 6, 0, 0, 1);
        x.request(2, 6, 0, 0, 1);
        x.tick();
        Plant.dueFrame(x, 0, false, 1, 6, 0, 0, 0, 1);
        Plant.dueFrame(x, 1, true, 2, 6, 0, 0, 0, 1);
    }
}
