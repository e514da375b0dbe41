/** "Terms", slaves: their numbers, lines, delays and tables, and what they are at first. */
public final class EdgeTermsSlaves {
    public static void main(String[] args) {
        Due.holds("SLAVES 1 .. 6.", EdgeTermsSlaves::slavesOneToSix);
        Due.holds("has a LINE (0 or 1)", EdgeTermsSlaves::linesZeroAndOne);
        Due.holds("and a DELAY (0 .. 5)", EdgeTermsSlaves::delaysZeroToFive);
        Due.holds("it is ON or off, at first on", EdgeTermsSlaves::atFirstOn);
        Due.holds("and may be in LISTEN-ONLY mode, at first not", EdgeTermsSlaves::atFirstNotListenOnly);
        Due.holds("1 COILS 0 .. 15", () -> placesOf(1, 16));
        Due.holds("and 2 INPUTS 0 .. 15", () -> placesOf(2, 16));
        Due.holds("3 HOLDINGS 0 .. 7", () -> placesOf(3, 8));
        Due.holds("and 4 MEASURES 0 .. 7", () -> placesOf(4, 8));
        Due.holds("Each slave has four TABLES", EdgeTermsSlaves::fourTablesEach);
        Due.holds("which are bits", EdgeTermsSlaves::bits);
        Due.holds("which are WORDS, 0 .. 65535", EdgeTermsSlaves::words);
        Due.holds("All are 0 at first.", EdgeTermsSlaves::zeroAtFirst);
        Due.end();
    }

    private static void slavesOneToSix() {
        SerialPlant x = new SerialPlant();
        for (int slave = -1; slave <= 8; slave++) {
            boolean is = slave >= 1 && slave <= 6;
            Due.is("cell(" + slave + ", 4, 0)", x.cell(slave, 4, 0), is ? 0 : -1);
            Due.is("process(" + slave + ", 4, 0, 5)", x.process(slave, 4, 0, 5) ? 1 : 0, is ? 1 : 0);
            Due.is("power(" + slave + ", true)", x.power(slave, true) ? 1 : 0, is ? 1 : 0);
            Due.is("attach(" + slave + ", 0, 0)", x.attach(slave, 0, 0) ? 1 : 0, is ? 1 : 0);
            int number = is && slave <= 4 ? slave - 1 : -1;
            Due.is("point(" + slave + ", 4, 0)", x.point(slave, 4, 0), number);
        }
        for (int slave = 1; slave <= 7; slave++) {
            int n = x.request(slave, 4, 0, 1, 0);
            x.tick();
            Due.is("reply(" + n + ", 1) of unit " + slave, x.reply(n, 1), slave == 7 ? 10 : 0);
        }
        Due.is("reply(0, 2) of slave 1", x.reply(0, 2), 5);
        Due.is("reply(5, 2) of slave 6", x.reply(5, 2), 5);
    }

    private static void linesZeroAndOne() {
        for (int line = -2; line <= 3; line++) {
            SerialPlant x = new SerialPlant();
            boolean is = line == 0 || line == 1;
            Due.is("attach(1, " + line + ", 0)", x.attach(1, line, 0) ? 1 : 0, is ? 1 : 0);
            x.request(1, 3, 0, 1, 0);
            Due.is("line " + line + ": line(0, 0)", x.line(0, 0), line == 0 ? 1 : 0);
            Due.is("line " + line + ": line(1, 0)", x.line(1, 0), line == 1 ? 1 : 0);
        }
    }

    private static void delaysZeroToFive() {
        for (int delay = -1; delay <= 6; delay++) {
            SerialPlant x = new SerialPlant();
            boolean is = delay >= 0 && delay <= 5;
            Due.is("attach(1, 0, " + delay + ")", x.attach(1, 0, delay) ? 1 : 0, is ? 1 : 0);
            Due.is("delay " + delay + ": point(1, 3, 0)", x.point(1, 3, 0), is ? 0 : -1);
        }
    }

    private static void atFirstOn() {
        for (int slave = 1; slave <= 6; slave++) {
            SerialPlant x = new SerialPlant();
            x.attach(slave, 1, 0);
            x.request(slave, 6, 0, 0, 7);
            x.tick();
            Due.is("reply(0, 0) of slave " + slave, x.reply(0, 0), 1);
            Due.is("cell(" + slave + ", 3, 0)", x.cell(slave, 3, 0), 7);
        }
    }

    private static void atFirstNotListenOnly() {
        for (int slave = 1; slave <= 6; slave++) {
            SerialPlant x = new SerialPlant();
            x.attach(slave, 0, 0);
            x.request(slave, 8, 0, 0, 7);
            x.tick();
            Due.is("reply(0, 0) of slave " + slave, x.reply(0, 0), 1);
            Due.is("reply(0, 2) of slave " + slave, x.reply(0, 2), 7);
        }
    }

    private static void placesOf(int table, int places) {
        SerialPlant x = Plant.withSlaves(0);
        for (int address : new int[] {-1, 0, places - 1, places}) {
            boolean is = address >= 0 && address < places;
            Due.is("cell(1, " + table + ", " + address + ")", x.cell(1, table, address), is ? 0 : -1);
        }
        setAll(x, table, places);
        for (int address = 0; address < places; address++) {
            Due.is("cell(1, " + table + ", " + address + ")", x.cell(1, table, address), mark(table, address));
        }
        Due.none("cell(1, " + table + ", " + places + ")", x.cell(1, table, places));
        Due.none("cell(1, " + table + ", -1)", x.cell(1, table, -1));
    }

    /** What a place gets in these tests: words are all different, bits follow no simple row. */
    private static int mark(int table, int address) {
        return table <= 2 ? 0xB2D1 >> address & 1 : 60000 + 100 * table + address;
    }

    private static void setAll(SerialPlant x, int table, int places) {
        for (int address = 0; address < places; address++) {
            if (table == 1) {
                x.request(1, 5, address, 0, mark(table, address) * 65280L);
                x.tick();
            } else if (table == 3) {
                x.request(1, 6, address, 0, mark(table, address));
                x.tick();
            } else {
                x.process(1, table, address, mark(table, address));
            }
        }
    }

    private static void fourTablesEach() {
        SerialPlant x = Plant.withSlaves(0);
        for (int table = 0; table <= 5; table++) {
            Due.is("cell(1, " + table + ", 0)", x.cell(1, table, 0), table >= 1 && table <= 4 ? 0 : -1);
        }
        setAll(x, 1, 16);
        setAll(x, 3, 8);
        setAll(x, 2, 16);
        setAll(x, 4, 8);
        for (int slave = 1; slave <= 2; slave++) {
            for (int table = 1; table <= 4; table++) {
                for (int address = 0; address < (table <= 2 ? 16 : 8); address++) {
                    Due.is("cell(" + slave + ", " + table + ", " + address + ")", x.cell(slave, table, address),
                        slave == 1 ? mark(table, address) : 0);
                }
            }
        }
    }

    private static void bits() {
        SerialPlant x = Plant.withSlaves(0);
        x.request(1, 5, 0, 0, 65280);
        x.request(1, 15, 1, 2, -1);
        Plant.ticks(x, 2);
        x.process(1, 2, 0, 1);
        for (int address = 0; address <= 2; address++) {
            Due.is("cell(1, 1, " + address + ")", x.cell(1, 1, address), 1);
        }
        Due.is("cell(1, 2, 0)", x.cell(1, 2, 0), 1);
    }

    private static void words() {
        SerialPlant x = Plant.withSlaves(0);
        x.request(1, 6, 0, 0, -1);
        x.request(1, 16, 1, 2, -1);
        x.request(1, 22, 3, 0, 0xFFFF_0000L);
        Plant.ticks(x, 3);
        for (int address = 0; address <= 3; address++) {
            Due.is("cell(1, 3, " + address + ")", x.cell(1, 3, address), 65535);
        }
        x.process(1, 4, 7, 65535);
        Due.is("cell(1, 4, 7)", x.cell(1, 4, 7), 65535);
    }

    private static void zeroAtFirst() {
        SerialPlant x = new SerialPlant();
        for (int slave = 1; slave <= 6; slave++) {
            for (int table = 1; table <= 4; table++) {
                for (int address = 0; address < (table <= 2 ? 16 : 8); address++) {
                    Due.is("cell(" + slave + ", " + table + ", " + address + ")", x.cell(slave, table, address), 0);
                }
            }
        }
    }
}
