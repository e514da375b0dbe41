/** "Terms", which slave does a request and which answers: off, listen-only mode, broadcasts. */
public final class EdgeTermsAnswering {
    public static void main(String[] args) {
        Due.holds("A slave that is off does nothing.", EdgeTermsAnswering::offDoesNothing);
        Due.holds("A slave answers when the unit of the request is its number", EdgeTermsAnswering::onlyItsOwnNumber);
        Due.holds("and it is not in listen-only mode, neither before nor after the request",
            EdgeTermsAnswering::neitherBeforeNorAfter);
        Due.holds("in listen-only mode it does nothing but diagnose", EdgeTermsAnswering::nothingButDiagnose);
        Due.holds("The unit 0 is a BROADCAST: every slave of the line that is on does it", EdgeTermsAnswering::everySlaveOfTheLine);
        Due.holds("(in listen-only mode a diagnosis alone)", EdgeTermsAnswering::aDiagnosisAlone);
        Due.holds("and none answers.", EdgeTermsAnswering::noneAnswersABroadcast);
        Due.end();
    }

    private static void offDoesNothing() {
        SerialPlant x = Plant.withSlaves(0);
        x.power(1, false);
        // Neither a write nor a change of the mode is done, whether its own or a broadcast's.
        x.request(1, 6, 0, 0, 5);
        Plant.ticks(x, 10);
        x.request(1, 8, 4, 0, 0);
        Plant.ticks(x, 10);
        x.request(0, 15, 0, 16, -1);
        x.request(0, 8, 4, 0, 0);
        Plant.ticks(x, 10);
        Due.is("reply(0, 1)", x.reply(0, 1), 11);
        Due.is("reply(1, 1)", x.reply(1, 1), 11);
        Due.is("cell(1, 3, 0)", x.cell(1, 3, 0), 0);
        Due.is("cell(1, 1, 0)", x.cell(1, 1, 0), 0);
        Due.is("cell(1, 1, 15)", x.cell(1, 1, 15), 0);
        Due.is("wire(0, true, -1)", x.wire(0, true, -1), 0);
        x.power(1, true);
        x.request(1, 8, 0, 0, 9);
        x.tick();
        Plant.dueReply(x, 4, 1, 0, 9);
    }

    private static void onlyItsOwnNumber() {
        for (int unit = 1; unit <= 6; unit++) {
            SerialPlant x = new SerialPlant();
            for (int slave = 1; slave <= 6; slave++) {
                x.attach(slave, 1, 0);
            }
            x.request(unit, 6, 3, 0, 77);
            x.tick();
            for (int slave = 1; slave <= 6; slave++) {
                Due.is("unit " + unit + ": cell(" + slave + ", 3, 3)", x.cell(slave, 3, 3), slave == unit ? 77 : 0);
            }
            Plant.dueFrame(x, 1, true, unit, 6, 0, 3, 0, 77);
            Due.is("wire(0, true, -1)", x.wire(0, true, -1), 0);
        }
    }

    private static void neitherBeforeNorAfter() {
        SerialPlant x = Plant.withSlaves(0);
        // After kind 4 it is in the mode; it was not before.
        x.request(1, 8, 4, 0, 1);
        x.tick();
        Due.is("wire(0, true, -1) after kind 4", x.wire(0, true, -1), 0);
        Plant.ticks(x, 9);
        Plant.dueReply(x, 0, 2, 11, 0);
        // Before kind 1 it was in the mode; it is not after. The second attempt finds it out of the mode.
        x.request(1, 8, 1, 0, 2);
        x.tick();
        Due.is("wire(0, true, -1) after kind 1", x.wire(0, true, -1), 0);
        Plant.dueReply(x, 1, 0, 0, 0);
        Plant.ticks(x, 3);
        Plant.dueFrame(x, 0, true, 1, 8, 0, 1, 0, 2);
        Plant.dueReply(x, 1, 1, 0, 2);
        // Neither before nor after.
        x.request(1, 8, 1, 0, 3);
        x.tick();
        Plant.dueReply(x, 2, 1, 0, 3);
    }

    private static void nothingButDiagnose() {
        int[] functions = {1, 2, 3, 4, 5, 6, 15, 16, 22, 7, 127};
        for (int function : functions) {
            SerialPlant x = Plant.withSlaves(0);
            x.request(0, 8, 4, 0, 0);
            Plant.ticks(x, 3);
            x.request(1, function, 0, 1, 0xFFFF_FF00L);
            Plant.ticks(x, 10);
            Due.is("function " + function + ": reply(1, 1)", x.reply(1, 1), 11);
            Due.is("function " + function + ": wire(0, true, -1)", x.wire(0, true, -1), 0);
            Due.is("function " + function + ": cell(1, 1, 0)", x.cell(1, 1, 0), 0);
            Due.is("function " + function + ": cell(1, 3, 0)", x.cell(1, 3, 0), 0);
        }
        // Diagnoses that are not well, or of kind 0 or 4, get no answer either.
        for (int kind : new int[] {0, 2, 4, 65535}) {
            SerialPlant x = Plant.withSlaves(0);
            x.request(0, 8, 4, 0, 0);
            Plant.ticks(x, 3);
            x.request(1, 8, kind, 0, 0);
            Plant.ticks(x, 10);
            Due.is("kind " + kind + ": reply(1, 1)", x.reply(1, 1), 11);
            Due.is("kind " + kind + ": wire(0, true, -1)", x.wire(0, true, -1), 0);
        }
    }

    private static void everySlaveOfTheLine() {
        SerialPlant x = new SerialPlant();
        for (int slave = 1; slave <= 5; slave++) {
            x.attach(slave, slave % 2, slave);
        }
        x.power(3, false);
        x.power(4, false);
        // Line 0 drops the frame, so that only line 1, with slaves 1, 3 and 5, gets it.
        x.fault(0, false, 0);
        x.request(0, 6, 7, 0, 8);
        x.tick();
        int[] due = {8, 0, 0, 0, 8, 0};
        for (int slave = 1; slave <= 6; slave++) {
            Due.is("cell(" + slave + ", 3, 7)", x.cell(slave, 3, 7), due[slave - 1]);
        }
        x.request(0, 5, 15, 0, 65280);
        Plant.ticks(x, 2);
        int[] coils = {1, 1, 0, 0, 1, 0};
        for (int slave = 1; slave <= 6; slave++) {
            Due.is("cell(" + slave + ", 1, 15)", x.cell(slave, 1, 15), coils[slave - 1]);
        }
    }

    private static void aDiagnosisAlone() {
        SerialPlant x = new SerialPlant();
        x.attach(1, 0, 0);
        x.attach(2, 0, 0);
        x.request(2, 8, 4, 0, 0);
        Plant.ticks(x, 10);
        x.request(0, 6, 0, 0, 9);
        x.request(0, 8, 0, 0, 0);
        x.request(0, 8, 3, 0, 0);
        Plant.ticks(x, 6);
        Due.is("cell(1, 3, 0)", x.cell(1, 3, 0), 9);
        Due.is("cell(2, 3, 0) in listen-only mode", x.cell(2, 3, 0), 0);
        x.request(0, 8, 1, 0, 0);
        x.request(0, 6, 1, 0, 10);
        Plant.ticks(x, 6);
        Due.is("cell(2, 3, 1) after a broadcast of kind 1", x.cell(2, 3, 1), 10);
        x.request(2, 3, 1, 1, 0);
        x.tick();
        Plant.dueReply(x, 6, 1, 0, 10);
        x.request(0, 8, 4, 0, 0);
        x.request(0, 6, 2, 0, 11);
        Plant.ticks(x, 6);
        Due.is("cell(1, 3, 2) after a broadcast of kind 4", x.cell(1, 3, 2), 0);
        Due.is("cell(2, 3, 2) after a broadcast of kind 4", x.cell(2, 3, 2), 0);
    }

    private static void noneAnswersABroadcast() {
        for (int function : new int[] {1, 2, 3, 4, 5, 6, 7, 8, 15, 16, 22, 127}) {
            SerialPlant x = Plant.withSlaves(0);
            x.attach(3, 0, 1);
            Due.yes("fault(0, true, 0)", x.fault(0, true, 0));
            x.request(0, function, 0, 1, 0);
            Plant.ticks(x, 3);
            Due.is("function " + function + ": wire(0, true, -1)", x.wire(0, true, -1), 0);
            Due.is("function " + function + ": wire(1, true, -1)", x.wire(1, true, -1), 0);
            Plant.dueReply(x, 0, 3, 0, 0);
            Due.no("function " + function + ": fault(0, true, 0), which still waits,", x.fault(0, true, 0));
        }
    }
}
