import java.util.List;
import java.util.function.Consumer;
import java.util.function.Predicate;

/**
 * "A call that answers false or NONE changes nothing": two objects are brought to the same setting, one of
 * them gets the refused call, and then both get the same later calls, which have to be answered alike.
 */
final class Twins {
    /** A state of an object that refused calls are tried in. */
    enum Setting {
        NEW(x -> { }),
        BUSY(Twins::makeBusy),
        FULL(Twins::makeFull);

        private final Consumer<Watched> calls;

        Setting(Consumer<Watched> calls) {
            this.calls = calls;
        }

        Watched make() {
            Watched x = new Watched();
            calls.accept(x);
            return x;
        }
    }

    /** Four rows of later calls, as one object is not good for enough calls to look at everything. */
    private static final List<Consumer<Watched>> LOOKS = List.of(
        Twins::lookAtTables, Twins::lookAtAnswers, Twins::goOn, Twins::beginAnew);

    private Twins() {
    }

    /** The call is refused in every setting, and changes nothing there. */
    static void dueRefused(String call, Predicate<Watched> isRefused) {
        for (Setting setting : Setting.values()) {
            dueRefused(call, setting, isRefused);
        }
    }

    /** The call is refused in this setting, and changes nothing there. */
    static void dueRefused(String call, Setting setting, Predicate<Watched> isRefused) {
        for (Consumer<Watched> look : LOOKS) {
            Watched plain = setting.make();
            Watched tried = setting.make();
            Due.yes(call + " in the setting " + setting + " is refused: it", isRefused.test(tried));
            int plainStart = plain.told();
            int triedStart = tried.told();
            look.accept(plain);
            look.accept(tried);
            dueAlike(call + " in the setting " + setting, plain, plainStart, tried, triedStart);
        }
    }

    private static void dueAlike(String call, Watched plain, int plainStart, Watched tried, int triedStart) {
        int rows = plain.told() - plainStart;
        Due.is(call + ", and then the number of later calls", tried.told() - triedStart, rows);
        for (int i = 0; i < rows; i++) {
            long want = plain.answerAt(plainStart + i);
            long got = tried.answerAt(triedStart + i);
            if (got != want) {
                Due.is(call + ", and then call " + (i + 1) + ", " + tried.callAt(triedStart + i) + ",", got, want);
                return;
            }
        }
    }

    static void ticks(Watched x, int count) {
        for (int i = 0; i < count; i++) {
            x.tick();
        }
    }

    /**
     * T is 16. Line 0 has slave 1, at once, and slave 3, too late, and is busy with a second attempt, with a
     * full queue; line 1 has slave 2, in time, and slave 4 in listen-only mode, and waits for an answer.
     * Slaves 5 and 6 are not attached, and 5 is off. There are two points and two samples, and two faults wait.
     */
    private static void makeBusy(Watched x) {
        x.attach(1, 0, 0);
        x.attach(2, 1, 2);
        x.attach(3, 0, 4);
        x.attach(4, 1, 1);
        x.power(5, false);
        x.process(1, 4, 3, 333);
        x.process(2, 2, 15, 1);
        x.request(1, 16, 0, 4, 0x0004_0003_0002_0001L);
        x.request(4, 8, 4, 0, 0);
        x.request(1, 15, 4, 10, 0x2AA);
        x.point(1, 4, 3);
        x.point(2, 3, 1);
        ticks(x, 12);
        x.request(3, 3, 0, 2, 0);
        x.request(1, 3, 0, 4, 0);
        x.request(0, 6, 5, 0, 55);
        x.request(2, 6, 1, 0, 222);
        x.request(1, 22, 0, 0, 0x00F0_FF00L);
        ticks(x, 4);
        x.process(1, 4, 3, 334);
        x.fault(0, true, 7);
        x.fault(1, false, 9);
    }

    /** T is 37. All that can be full is: slaves, points, samples (with some gone), requests, lines, queues, faults. */
    private static void makeFull(Watched x) {
        int[] delays = {0, 1, 2, 0, 3, 5};
        for (int slave = 1; slave <= 6; slave++) {
            x.attach(slave, (slave + 1) % 2, delays[slave - 1]);
        }
        for (int slave = 1; slave <= 4; slave++) {
            x.point(slave, 4, slave + 3);
        }
        for (int round = 1; round <= 4; round++) {
            for (int slave = 1; slave <= 4; slave++) {
                x.process(slave, 4, slave + 3, 100 * round + slave);
            }
            ticks(x, 8);
        }
        // The polls of 32 are over before the lines get the last requests.
        ticks(x, 4);
        for (int n = 0; n < 54; n++) {
            x.request(200, 3, 0, 1, 0);
        }
        x.request(5, 6, 0, 0, 505);
        x.request(6, 6, 0, 0, 606);
        x.tick();
        for (int n = 0; n < 8; n++) {
            x.request(1 + n % 4, 6, n, 0, 1000 + n);
        }
        for (int line = 0; line < 2; line++) {
            x.fault(line, false, 3);
            x.fault(line, true, 4);
        }
    }

    private static void lookAtTables(Watched x) {
        for (int slave = 1; slave <= 6; slave++) {
            for (int table = 1; table <= 4; table++) {
                for (int address = 0; address < (table <= 2 ? 16 : 8); address++) {
                    x.cell(slave, table, address);
                }
            }
        }
        x.tick();
    }

    private static void lookAtAnswers(Watched x) {
        for (int n = 0; n <= 64; n++) {
            for (int which = 0; which <= 2; which++) {
                x.reply(n, which);
            }
        }
        for (int k = 0; k <= 12; k++) {
            for (int which = 0; which <= 2; which++) {
                x.sample(k, which);
            }
        }
        lookAtLines(x);
        for (int k = -1; k < 17; k++) {
            for (int line = 0; line < 2; line++) {
                x.wire(line, false, k);
                x.wire(line, true, k);
            }
        }
    }

    private static void lookAtLines(Watched x) {
        for (int line = 0; line < 2; line++) {
            for (int which = 0; which <= 2; which++) {
                x.line(line, which);
            }
        }
    }

    /** What is under way goes on: queues, attempts, answers that come, faults, polls. */
    private static void goOn(Watched x) {
        for (int i = 0; i < 32; i++) {
            x.tick();
            lookAtLines(x);
            x.wire(0, true, -1);
            x.wire(1, true, -1);
        }
        for (int point = 0; point < 4; point++) {
            x.samples(point, 0, 100);
        }
        for (int n = 54; n < 64; n++) {
            x.reply(n, 0);
        }
        for (int n = 0; n < 8; n++) {
            x.reply(n, 2);
        }
        for (int address = 0; address < 8; address++) {
            x.cell(1, 3, address);
            x.cell(2, 3, address);
        }
    }

    /** New things are made: what is refused, and what the new things do, tells what stood there before. */
    private static void beginAnew(Watched x) {
        for (int line = 0; line < 2; line++) {
            x.fault(line, false, 0);
            x.fault(line, true, 0);
        }
        for (int slave = 1; slave <= 6; slave++) {
            x.attach(slave, slave % 2, 1);
        }
        for (int i = 0; i < 5; i++) {
            x.point(1 + i, 3, i);
        }
        ticks(x, 40);
        for (int unit = 1; unit <= 6; unit++) {
            int n = x.request(unit, 6, unit, 0, 10 * unit);
            for (int i = 0; i < 10; i++) {
                x.tick();
                x.line(0, 2);
                x.line(1, 2);
            }
            x.reply(n, 0);
            x.reply(n, 1);
            x.cell(unit, 3, unit);
        }
        for (int k = 0; k <= 12; k++) {
            x.sample(k, 0);
            x.sample(k, 1);
            x.sample(k, 2);
        }
    }
}
