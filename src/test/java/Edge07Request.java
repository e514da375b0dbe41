/** Promise 7: request at its edges. */
public final class Edge07Request {
    public static void main(String[] args) {
        Due.holds("A request: its number.", Edge07Request::edgesThatAreTaken);
        Due.holds("NONE when unit, [..] is not as said there", Edge07Request::noSuchUnit);
        Due.holds("NONE when [..] function, [..] is not as said there", Edge07Request::noSuchFunction);
        Due.holds("NONE when [..] address [..] is not as said there", Edge07Request::noSuchAddress);
        Due.holds("NONE when [..] or count is not as said there", Edge07Request::noSuchCount);
        Due.holds("or 64 were made.", Edge07Request::sixtyFourWereMade);
        Due.end();
    }

    private static void dueRefused(int unit, int function, int address, int count, long value) {
        Twins.dueRefused("request(" + unit + ", " + function + ", " + address + ", " + count + ", " + value + ")",
            x -> x.request(unit, function, address, count, value) == -1);
    }

    private static void edgesThatAreTaken() {
        SerialPlant x = Plant.withSlaves(0);
        int n = 0;
        for (int unit : new int[] {0, 1, 6, 7, 247}) {
            for (int function : new int[] {1, 127}) {
                for (int address : new int[] {0, 65535}) {
                    for (int count : new int[] {0, 16}) {
                        Due.is("request(" + unit + ", " + function + ", " + address + ", " + count + ", MIN)",
                            x.request(unit, function, address, count, n % 2 == 0 ? Long.MIN_VALUE : Long.MAX_VALUE), n);
                        Due.is("reply(" + n + ", 0)", x.reply(n, 0), unit == 0 ? 3 : unit == 1 ? 0 : 2);
                        Plant.ticks(x, 2);
                        n++;
                    }
                }
            }
        }
    }

    private static void noSuchUnit() {
        for (int unit : new int[] {Integer.MIN_VALUE, -1, 248, 249, 256, 257, Integer.MAX_VALUE}) {
            dueRefused(unit, 6, 0, 0, 9);
            dueRefused(unit, 127, 65535, 16, -1);
        }
    }

    private static void noSuchFunction() {
        for (int function : new int[] {Integer.MIN_VALUE, -1, 0, 128, 129, 134, 262, Integer.MAX_VALUE}) {
            dueRefused(1, function, 0, 0, 9);
            dueRefused(0, function, 0, 0, 9);
            dueRefused(9, function, 0, 0, 9);
        }
    }

    private static void noSuchAddress() {
        for (int address : new int[] {Integer.MIN_VALUE, -1, 65536, 65537, Integer.MAX_VALUE}) {
            dueRefused(1, 6, address, 0, 9);
            dueRefused(0, 6, address, 0, 9);
            dueRefused(9, 99, address, 0, 9);
        }
    }

    private static void noSuchCount() {
        for (int count : new int[] {Integer.MIN_VALUE, -1, 17, 18, Integer.MAX_VALUE}) {
            dueRefused(2, 6, 0, count, 9);
            dueRefused(0, 15, 0, count, -1);
            dueRefused(9, 99, 0, count, 9);
        }
    }

    private static void sixtyFourWereMade() {
        for (int unit : new int[] {0, 1, 2, 5, 6, 7, 247}) {
            Twins.dueRefused("request(" + unit + ", 6, 1, 0, 9) after 64", Twins.Setting.FULL,
                x -> x.request(unit, 6, 1, 0, 9) == -1);
        }
        // Refused ones are not counted: 64 can be made after them, and not a 65th.
        SerialPlant x = Plant.withSlaves(0);
        for (int n = 0; n < 64; n++) {
            Due.none("request(248, 6, 0, 0, 0)", x.request(248, 6, 0, 0, 0));
            Due.none("request(1, 128, 0, 0, 0)", x.request(1, 128, 0, 0, 0));
            Due.none("request(1, 6, 65536, 0, 0)", x.request(1, 6, 65536, 0, 0));
            Due.none("request(1, 6, 0, 17, 0)", x.request(1, 6, 0, 17, 0));
            Due.is("request(1, 6, 0, 0, " + n + ")", x.request(1, 6, 0, 0, n), n);
            x.tick();
            Due.is("reply(" + n + ", 2)", x.reply(n, 2), n);
        }
        Due.none("request(1, 6, 0, 0, 64)", x.request(1, 6, 0, 0, 64));
        x.tick();
        Due.is("cell(1, 3, 0)", x.cell(1, 3, 0), 63);
        Due.none("reply(64, 0)", x.reply(64, 0));
    }
}
