/** Promise 10: reply at its edges. */
public final class Edge10Reply {
    public static void main(String[] args) {
        Due.holds("1 the number of its exception (0 when it is none)", Edge10Reply::numbersOfExceptions);
        Due.holds("2 what it was ANSWERED, else 0", Edge10Reply::zeroWhenNotAnswered);
        Due.holds("for 1 and 2 the bits (that of the address in the lowest)", Edge10Reply::bits);
        Due.holds("for 3 and 4 the words (that of the address in the lowest 16 bits, and so on)", Edge10Reply::words);
        Due.holds("for 5, 6 and 8 the word after the address", Edge10Reply::oneWord);
        Due.holds("for 22 the two words (a in the lowest 16 bits)", Edge10Reply::twoWords);
        Due.holds("for 15 and 16 the count.", Edge10Reply::counts);
        Due.holds("NONE when there is no such request", Edge10Reply::noSuchRequest);
        Due.holds("or which is not 0 .. 2.", Edge10Reply::noSuchWhich);
        Due.end();
    }

    private static void dueAnswer(SerialPlant x, int function, int address, int count, long value, long due) {
        int n = x.request(1, function, address, count, value);
        x.tick();
        Due.is("function " + function + " at " + address + ", count " + count + ", value " + value + ": reply(" + n + ", 2)",
            x.reply(n, 2), due);
        Due.is("and its state", x.reply(n, 0), 1);
        Due.is("and its exception", x.reply(n, 1), 0);
    }

    private static void numbersOfExceptions() {
        SerialPlant x = Plant.withSlaves(0);
        x.attach(3, 0, 3);
        x.request(1, 99, 0, 0, 0);
        x.request(1, 6, 8, 0, 0);
        x.request(1, 5, 0, 0, 1);
        x.request(3, 3, 0, 1, 0);
        x.request(4, 3, 0, 1, 0);
        x.request(2, 3, 0, 1, 0);
        x.request(0, 3, 0, 1, 0);
        int[] before = {0, 0, 0, 0, 10, 0, 0};
        int[] after = {1, 2, 3, 11, 10, 0, 0};
        for (int n = 0; n < 7; n++) {
            Due.is("reply(" + n + ", 1) before", x.reply(n, 1), before[n]);
        }
        Plant.ticks(x, 20);
        for (int n = 0; n < 7; n++) {
            Due.is("reply(" + n + ", 1) after", x.reply(n, 1), after[n]);
        }
    }

    private static void zeroWhenNotAnswered() {
        SerialPlant x = Plant.withSlaves(2);
        x.process(1, 4, 0, 65535);
        x.request(1, 4, 0, 1, -1);
        x.request(1, 4, 8, 1, -1);
        x.request(9, 4, 0, 1, -1);
        x.request(0, 6, 0, 0, -1);
        for (int n = 0; n < 4; n++) {
            Due.is("reply(" + n + ", 2) before", x.reply(n, 2), 0);
        }
        Plant.ticks(x, 2);
        Due.is("reply(0, 2) while its answer is under way", x.reply(0, 2), 0);
        x.tick();
        Due.is("reply(0, 2)", x.reply(0, 2), 65535);
        Plant.ticks(x, 12);
        for (int n = 1; n < 4; n++) {
            Due.is("reply(" + n + ", 2) after", x.reply(n, 2), 0);
        }
        x.power(1, false);
        x.request(1, 6, 0, 0, -1);
        Plant.ticks(x, 10);
        Plant.dueReply(x, 4, 2, 11, 0);
    }

    private static void bits() {
        for (int place = 0; place < 16; place++) {
            SerialPlant x = Plant.withSlaves(0);
            x.process(1, 2, place, 1);
            dueAnswer(x, 5, place, 0, 65280, 65280);
            for (int function = 1; function <= 2; function++) {
                dueAnswer(x, function, place, 1, -1, 1);
                dueAnswer(x, function, 0, 16, -1, 1L << place);
                dueAnswer(x, function, 0, place + 1, -1, 1L << place);
                if (place > 0) {
                    dueAnswer(x, function, 0, place, -1, 0);
                    dueAnswer(x, function, place - 1, 2, -1, 2);
                }
                dueAnswer(x, function, place, 16 - place, -1, 1);
            }
        }
        SerialPlant x = Plant.withSlaves(0);
        dueAnswer(x, 15, 0, 16, -1, 16);
        dueAnswer(x, 1, 0, 16, 0, 65535);
    }

    private static void words() {
        SerialPlant x = Plant.withSlaves(0);
        dueAnswer(x, 16, 0, 4, -1, 4);
        dueAnswer(x, 16, 4, 4, 0x8000_4000_2000_1000L, 4);
        for (int k = 0; k < 8; k++) {
            x.process(1, 4, k, k < 4 ? 65535 : 0x0800 << k - 4 + 1);
        }
        for (int function = 3; function <= 4; function++) {
            dueAnswer(x, function, 0, 1, 0, 0xFFFFL);
            dueAnswer(x, function, 0, 2, 0, 0xFFFF_FFFFL);
            dueAnswer(x, function, 0, 3, 0, 0xFFFF_FFFF_FFFFL);
            dueAnswer(x, function, 0, 4, 0, -1L);
            dueAnswer(x, function, 4, 4, 0, 0x8000_4000_2000_1000L);
            dueAnswer(x, function, 7, 1, 0, 0x8000);
            dueAnswer(x, function, 6, 2, 0, 0x8000_4000L);
            dueAnswer(x, function, 3, 2, 0, 0x1000_FFFFL);
        }
    }

    private static void oneWord() {
        SerialPlant x = Plant.withSlaves(0);
        for (int count : new int[] {0, 16}) {
            dueAnswer(x, 5, 15, count, 0x1_FF00L, 65280);
            dueAnswer(x, 5, 15, count, 0xFFFF_0000L, 0);
            dueAnswer(x, 6, 7, count, -1, 65535);
            dueAnswer(x, 6, 7, count, 0x1_0000L, 0);
            dueAnswer(x, 8, 0, count, -1, 65535);
            dueAnswer(x, 8, 0, count, Long.MIN_VALUE, 0);
            dueAnswer(x, 8, 1, count, 0x8000, 32768);
        }
    }

    private static void twoWords() {
        SerialPlant x = Plant.withSlaves(0);
        dueAnswer(x, 22, 7, 0, -1, 0xFFFF_FFFFL);
        dueAnswer(x, 22, 7, 0, 0x8000_0000L, 0x8000_0000L);
        dueAnswer(x, 22, 7, 0, 0xFFFFL, 0xFFFFL);
        dueAnswer(x, 22, 0, 16, 0xFFFF_0000_0000L, 0);
        dueAnswer(x, 22, 0, 0, 0x0001_0002L, 0x0001_0002L);
    }

    private static void counts() {
        SerialPlant x = Plant.withSlaves(0);
        for (int count = 1; count <= 16; count++) {
            dueAnswer(x, 15, 0, count, -1, count);
        }
        for (int count = 1; count <= 4; count++) {
            dueAnswer(x, 16, 4, count, -1, count);
        }
    }

    private static void noSuchRequest() {
        for (int which = 0; which <= 2; which++) {
            int w = which;
            for (int n : new int[] {Integer.MIN_VALUE, -1, 64, 65, Integer.MAX_VALUE}) {
                Twins.dueRefused("reply(" + n + ", " + which + ")", x -> x.reply(n, w) == -1);
            }
            Twins.dueRefused("reply(0, " + which + ")", Twins.Setting.NEW, x -> x.reply(0, w) == -1);
            Twins.dueRefused("reply(8, " + which + ")", Twins.Setting.BUSY, x -> x.reply(8, w) == -1);
        }
        SerialPlant x = new SerialPlant();
        for (int n = 0; n < 64; n++) {
            Due.none("reply(" + n + ", 0) before it is made", x.reply(n, 0));
            x.request(9, 1, 0, 0, 0);
            Due.is("reply(" + n + ", 0)", x.reply(n, 0), 2);
        }
        Due.none("reply(64, 0)", x.reply(64, 0));
    }

    private static void noSuchWhich() {
        for (int which : new int[] {Integer.MIN_VALUE, -1, 3, 4, Integer.MAX_VALUE}) {
            for (int n : new int[] {0, 7, 63}) {
                Twins.dueRefused("reply(" + n + ", " + which + ")", x -> x.reply(n, which) == -1);
            }
        }
    }
}
