/** What many tests do with a SerialPlant. */
final class Plant {
    private Plant() {
    }

    /** A new object with slave 1 on line 0 and slave 2 on line 1, both answering after the delay. */
    static SerialPlant withSlaves(int delay) {
        SerialPlant x = new SerialPlant();
        x.attach(1, 0, delay);
        x.attach(2, 1, delay);
        return x;
    }

    static void ticks(SerialPlant x, int count) {
        for (int i = 0; i < count; i++) {
            x.tick();
        }
    }

    static void dueReply(SerialPlant x, int n, int state, int exception, long answered) {
        Due.is("reply(" + n + ", 0)", x.reply(n, 0), state);
        Due.is("reply(" + n + ", 1)", x.reply(n, 1), exception);
        Due.is("reply(" + n + ", 2)", x.reply(n, 2), answered);
    }

    static void dueLine(SerialPlant x, int line, int queued, int attempts, int busyWith) {
        Due.is("line(" + line + ", 0)", x.line(line, 0), queued);
        Due.is("line(" + line + ", 1)", x.line(line, 1), attempts);
        Due.is("line(" + line + ", 2)", x.line(line, 2), busyWith);
    }

    static void dueSample(SerialPlant x, int k, int time, int point, int word) {
        Due.is("sample(" + k + ", 0)", x.sample(k, 0), time);
        Due.is("sample(" + k + ", 1)", x.sample(k, 1), point);
        Due.is("sample(" + k + ", 2)", x.sample(k, 2), word);
    }

    /** The latest frame of the line has these bytes, and then their sum. */
    static void dueFrame(SerialPlant x, int line, boolean answer, int... body) {
        String call = "wire(" + line + ", " + answer + ", ";
        int sum = sumOf(body);
        Due.is(call + "-1)", x.wire(line, answer, -1), body.length + 2);
        for (int k = 0; k < body.length; k++) {
            Due.is(call + k + ")", x.wire(line, answer, k), body[k]);
        }
        Due.is(call + body.length + ")", x.wire(line, answer, body.length), sum % 256);
        Due.is(call + (body.length + 1) + ")", x.wire(line, answer, body.length + 1), sum / 256);
        Due.none(call + (body.length + 2) + ")", x.wire(line, answer, body.length + 2));
    }

    /** The sum by another road than the program's: a division of polynomials, the highest power first. */
    static int sumOf(int[] body) {
        int rest = 0xFFFF;
        for (int b : body) {
            for (int i = 0; i < 8; i++) {
                int in = (b >> i) & 1;
                boolean turn = (rest >> 15 & 1) != in;
                rest = rest << 1 & 0xFFFF;
                if (turn) {
                    rest ^= 0x8005;
                }
            }
        }
        return Integer.reverse(rest) >>> 16;
    }
}
