/** Promise 8: fault. */
public final class Promise08Fault {
    public static void main(String[] args) {
        refusesWrongArguments();
        oneOfAKindWaits();
        aDamagedRequestIsNotDone();
        aDamagedAnswerIsDoneButNotTaken();
        bothFaultsAfterOneAnother();
        aFaultWaitsForAnAnswer();
        aDamagedBroadcastIsLost();
        aDamagedPollIsSentAgain();
        everyBitIsDamage();
        Due.end();
    }

    private static void refusesWrongArguments() {
        SerialPlant x = new SerialPlant();
        int[][] wrong = {
            {-1, 0}, {2, 0}, {Integer.MIN_VALUE, 0}, {Integer.MAX_VALUE, 0},
            {0, -1}, {0, 401}, {1, Integer.MIN_VALUE}, {1, Integer.MAX_VALUE},
        };
        for (int[] w : wrong) {
            Due.no("fault(" + w[0] + ", false, " + w[1] + ")", x.fault(w[0], false, w[1]));
            Due.no("fault(" + w[0] + ", true, " + w[1] + ")", x.fault(w[0], true, w[1]));
        }
        Due.yes("fault(0, false, 0)", x.fault(0, false, 0));
        Due.yes("fault(0, true, 400)", x.fault(0, true, 400));
    }

    private static void oneOfAKindWaits() {
        SerialPlant x = Plant.withSlaves(0);
        for (int line = 0; line < 2; line++) {
            Due.yes("fault(" + line + ", false, 1)", x.fault(line, false, 1));
            Due.no("fault(" + line + ", false, 2) again", x.fault(line, false, 2));
            Due.yes("fault(" + line + ", true, 1)", x.fault(line, true, 1));
            Due.no("fault(" + line + ", true, 1) again", x.fault(line, true, 1));
        }
        x.request(1, 3, 0, 1, 0);
        x.tick();
        Due.yes("fault(0, false, 1) after the first was over", x.fault(0, false, 1));
        Due.no("fault(0, true, 1) which no answer has met", x.fault(0, true, 1));
        Due.no("fault(1, false, 1) of the other line", x.fault(1, false, 1));
    }

    private static void aDamagedRequestIsNotDone() {
        SerialPlant x = Plant.withSlaves(0);
        x.fault(0, false, 17);
        x.request(1, 6, 0, 0, 5);
        x.tick();
        Due.is("cell(1, 3, 0)", x.cell(1, 3, 0), 0);
        Due.is("wire(0, true, -1)", x.wire(0, true, -1), 0);
        Plant.dueFrame(x, 0, false, 1, 6, 0, 0, 0, 5);
        Plant.dueLine(x, 0, 0, 1, 0);
        Plant.ticks(x, 2);
        Plant.dueLine(x, 0, 0, 1, 0);
        x.tick();
        Plant.dueReply(x, 0, 1, 0, 5);
        Due.is("cell(1, 3, 0)", x.cell(1, 3, 0), 5);
    }

    private static void aDamagedAnswerIsDoneButNotTaken() {
        SerialPlant x = Plant.withSlaves(0);
        x.fault(0, true, 17);
        x.request(1, 6, 0, 0, 5);
        x.tick();
        Due.is("cell(1, 3, 0)", x.cell(1, 3, 0), 5);
        Plant.dueFrame(x, 0, true, 1, 6, 0, 0, 0, 5);
        Plant.dueReply(x, 0, 0, 0, 0);
        Plant.dueLine(x, 0, 0, 1, 0);
        Plant.ticks(x, 2);
        Plant.dueReply(x, 0, 0, 0, 0);
        x.tick();
        Plant.dueReply(x, 0, 1, 0, 5);
    }

    private static void bothFaultsAfterOneAnother() {
        SerialPlant x = Plant.withSlaves(1);
        x.fault(0, true, 0);
        x.fault(0, false, 0);
        x.request(1, 6, 0, 0, 5);
        x.tick();
        Due.is("cell(1, 3, 0)", x.cell(1, 3, 0), 0);
        Plant.ticks(x, 3);
        Due.is("cell(1, 3, 0)", x.cell(1, 3, 0), 5);
        Plant.ticks(x, 3);
        Plant.dueLine(x, 0, 0, 3, 0);
        Plant.dueReply(x, 0, 0, 0, 0);
        x.tick();
        Plant.dueReply(x, 0, 1, 0, 5);
    }

    private static void aFaultWaitsForAnAnswer() {
        SerialPlant x = Plant.withSlaves(3);
        x.fault(0, true, 0);
        x.request(0, 6, 0, 0, 5);
        x.tick();
        Due.no("fault(0, true, 0): a broadcast has no answer", x.fault(0, true, 0));
        Plant.ticks(x, 2);
        x.request(1, 3, 0, 1, 0);
        x.tick();
        Due.yes("fault(0, true, 0): a late answer is sent, too", x.fault(0, true, 0));
    }

    private static void aDamagedBroadcastIsLost() {
        SerialPlant x = Plant.withSlaves(0);
        x.fault(0, false, 0);
        x.request(0, 6, 0, 0, 5);
        Plant.ticks(x, 2);
        Plant.dueLine(x, 0, 0, 1, 0);
        x.tick();
        Plant.dueLine(x, 0, 0, 0, -1);
        Plant.ticks(x, 9);
        Due.is("cell(1, 3, 0)", x.cell(1, 3, 0), 0);
        Due.is("cell(2, 3, 0)", x.cell(2, 3, 0), 5);
        Plant.dueReply(x, 0, 3, 0, 0);
    }

    private static void aDamagedPollIsSentAgain() {
        SerialPlant x = Plant.withSlaves(0);
        x.point(1, 3, 0);
        x.point(2, 3, 0);
        x.fault(0, false, 0);
        x.fault(1, true, 0);
        Plant.ticks(x, 8);
        Due.none("sample(0, 0)", x.sample(0, 0));
        Plant.ticks(x, 3);
        Plant.dueSample(x, 0, 11, 0, 0);
        Plant.dueSample(x, 1, 11, 1, 0);
    }

    private static void everyBitIsDamage() {
        for (int bit = 0; bit <= 400; bit++) {
            SerialPlant x = Plant.withSlaves(0);
            Due.yes("fault(0, false, " + bit + ")", x.fault(0, false, bit));
            Due.yes("fault(1, true, " + bit + ")", x.fault(1, true, bit));
            x.request(1, 3, 0, 1, 0);
            x.request(2, 3, 0, 1, 0);
            x.tick();
            Due.is("bit " + bit + ": reply(0, 0)", x.reply(0, 0), 0);
            Due.is("bit " + bit + ": reply(1, 0)", x.reply(1, 0), 0);
            Plant.dueFrame(x, 0, false, 1, 3, 0, 0, 0, 1);
            Plant.dueFrame(x, 1, true, 2, 3, 2, 0, 0);
        }
    }
}
