/** Promise 9: tick, with the sending, the attempts, the queues and the polls. */
public final class Promise09Tick {
    public static void main(String[] args) {
        answersT();
        nothingIsSentBetweenTicks();
        oneJobATickWhenAnswersComeAtOnce();
        theNextJobFollowsAnAnswerInItsTick();
        theNextJobFollowsALateAtOnceAnswer();
        theNextJobFollowsALostOne();
        threeAttempts();
        aBroadcastTakesTwoTicks();
        linesGoOnApart();
        pollsEveryEighthTick();
        aPollThatIsUnderWayIsNotPutAgain();
        aPollFindsTheQueueFull();
        aPollIsGivenUp();
        requestsAndPollsShareTheQueue();
        Due.end();
    }

    private static void answersT() {
        SerialPlant x = new SerialPlant();
        for (int t = 1; t <= 512; t++) {
            Due.is("tick()", x.tick(), t);
        }
    }

    private static void nothingIsSentBetweenTicks() {
        SerialPlant x = Plant.withSlaves(0);
        x.request(1, 6, 0, 0, 5);
        x.request(0, 6, 1, 0, 5);
        Plant.dueReply(x, 0, 0, 0, 0);
        Due.is("wire(0, false, -1)", x.wire(0, false, -1), 0);
        Due.is("cell(1, 3, 0)", x.cell(1, 3, 0), 0);
        Due.is("cell(2, 3, 1)", x.cell(2, 3, 1), 0);
    }

    private static void oneJobATickWhenAnswersComeAtOnce() {
        SerialPlant x = Plant.withSlaves(0);
        for (int n = 0; n < 4; n++) {
            x.request(1, 6, n, 0, 5);
        }
        for (int n = 0; n < 4; n++) {
            x.tick();
            Plant.dueLine(x, 0, 3 - n, 0, -1);
            Due.is("reply(" + n + ", 0)", x.reply(n, 0), 1);
            Due.is("reply(" + (n + 1) + ", 0)", x.reply(n + 1, 0), n < 3 ? 0 : -1);
        }
    }

    private static void theNextJobFollowsAnAnswerInItsTick() {
        SerialPlant x = Plant.withSlaves(2);
        x.request(1, 6, 0, 0, 5);
        x.request(1, 6, 1, 0, 6);
        Plant.ticks(x, 2);
        Plant.dueLine(x, 0, 1, 1, 0);
        Due.is("cell(1, 3, 1)", x.cell(1, 3, 1), 0);
        x.tick();
        Plant.dueReply(x, 0, 1, 0, 5);
        Plant.dueLine(x, 0, 0, 1, 1);
        Due.is("cell(1, 3, 1)", x.cell(1, 3, 1), 6);
        Plant.ticks(x, 2);
        Plant.dueReply(x, 1, 1, 0, 6);
        Plant.dueLine(x, 0, 0, 0, -1);
    }

    private static void theNextJobFollowsALateAtOnceAnswer() {
        SerialPlant x = Plant.withSlaves(0);
        x.fault(0, false, 0);
        for (int n = 0; n < 3; n++) {
            x.request(1, 6, n, 0, 5);
        }
        Plant.ticks(x, 3);
        Plant.dueLine(x, 0, 2, 1, 0);
        x.tick();
        Plant.dueReply(x, 0, 1, 0, 5);
        Plant.dueReply(x, 1, 1, 0, 5);
        Plant.dueReply(x, 2, 0, 0, 0);
        Plant.dueLine(x, 0, 1, 0, -1);
    }

    private static void theNextJobFollowsALostOne() {
        SerialPlant x = Plant.withSlaves(1);
        x.attach(3, 0, 3);
        x.request(3, 3, 0, 1, 0);
        x.request(1, 3, 0, 1, 0);
        Plant.ticks(x, 9);
        Plant.dueLine(x, 0, 1, 3, 0);
        x.tick();
        Plant.dueReply(x, 0, 2, 11, 0);
        Plant.dueLine(x, 0, 0, 1, 1);
    }

    private static void threeAttempts() {
        for (int delay = 3; delay <= 5; delay++) {
            SerialPlant x = Plant.withSlaves(delay);
            x.request(1, 6, 0, 0, 5);
            for (int t = 1; t <= 9; t++) {
                x.tick();
                Plant.dueLine(x, 0, 0, (t + 2) / 3, 0);
                Plant.dueReply(x, 0, 0, 0, 0);
            }
            x.tick();
            Plant.dueLine(x, 0, 0, 0, -1);
            Plant.dueReply(x, 0, 2, 11, 0);
            Plant.ticks(x, 6);
            Plant.dueReply(x, 0, 2, 11, 0);
            Due.is("cell(1, 3, 0)", x.cell(1, 3, 0), 5);
        }
    }

    private static void aBroadcastTakesTwoTicks() {
        SerialPlant x = Plant.withSlaves(0);
        x.request(0, 6, 0, 0, 5);
        x.request(0, 6, 0, 0, 6);
        x.request(1, 3, 0, 1, 0);
        for (int t = 1; t <= 2; t++) {
            x.tick();
            Plant.dueLine(x, 0, 2, 1, 0);
            Plant.dueLine(x, 1, 1, 1, 0);
        }
        Due.is("cell(1, 3, 0)", x.cell(1, 3, 0), 5);
        for (int t = 3; t <= 4; t++) {
            x.tick();
            Plant.dueLine(x, 0, 1, 1, 1);
            Plant.dueLine(x, 1, 0, 1, 1);
        }
        x.tick();
        Plant.dueReply(x, 2, 1, 0, 6);
        Plant.dueLine(x, 1, 0, 0, -1);
    }

    private static void linesGoOnApart() {
        SerialPlant x = new SerialPlant();
        x.attach(1, 0, 2);
        x.attach(2, 1, 1);
        x.request(1, 3, 0, 1, 0);
        x.request(2, 3, 0, 1, 0);
        x.tick();
        Plant.dueLine(x, 0, 0, 1, 0);
        Plant.dueLine(x, 1, 0, 1, 1);
        x.tick();
        Plant.dueLine(x, 0, 0, 1, 0);
        Plant.dueLine(x, 1, 0, 0, -1);
        x.tick();
        Plant.dueLine(x, 0, 0, 0, -1);
    }

    private static void pollsEveryEighthTick() {
        SerialPlant x = Plant.withSlaves(0);
        x.point(1, 4, 0);
        for (int t = 1; t <= 40; t++) {
            x.process(1, 4, 0, t);
            x.tick();
            Due.is("samples(0, 0, 99) at " + t, x.samples(0, 0, 99), t / 8);
        }
        for (int k = 0; k < 5; k++) {
            Plant.dueSample(x, k, 8 * (k + 1), 0, 8 * (k + 1));
        }
    }

    private static void aPollThatIsUnderWayIsNotPutAgain() {
        SerialPlant x = Plant.withSlaves(0);
        x.power(1, false);
        x.point(1, 3, 0);
        x.point(1, 3, 1);
        Plant.ticks(x, 8);
        Plant.dueLine(x, 0, 1, 1, 64);
        Plant.ticks(x, 8);
        Plant.dueLine(x, 0, 1, 3, 64);
        x.tick();
        Plant.dueLine(x, 0, 0, 1, 65);
        Plant.ticks(x, 7);
        Plant.dueLine(x, 0, 1, 3, 65);
        x.power(1, true);
        Plant.ticks(x, 2);
        Plant.dueLine(x, 0, 0, 0, -1);
        Plant.dueSample(x, 0, 26, 0, 0);
    }

    private static void aPollFindsTheQueueFull() {
        SerialPlant x = Plant.withSlaves(0);
        x.point(1, 3, 0);
        x.point(2, 3, 0);
        Plant.ticks(x, 7);
        for (int n = 0; n < 4; n++) {
            x.request(1, 3, 0, 1, 0);
        }
        x.tick();
        Plant.dueLine(x, 0, 3, 0, -1);
        Plant.dueSample(x, 0, 8, 1, 0);
        Plant.ticks(x, 7);
        Due.none("sample(1, 0)", x.sample(1, 0));
        x.tick();
        Plant.dueSample(x, 1, 16, 0, 0);
    }

    private static void aPollIsGivenUp() {
        SerialPlant x = Plant.withSlaves(0);
        x.point(1, 3, 0);
        x.power(1, false);
        Plant.ticks(x, 16);
        Plant.dueLine(x, 0, 0, 3, 64);
        x.tick();
        Plant.dueLine(x, 0, 0, 0, -1);
        Plant.ticks(x, 6);
        Plant.dueLine(x, 0, 0, 0, -1);
        x.tick();
        Plant.dueLine(x, 0, 0, 1, 64);
        Due.none("sample(0, 0)", x.sample(0, 0));
        Due.none("reply(0, 0)", x.reply(0, 0));
    }

    private static void requestsAndPollsShareTheQueue() {
        SerialPlant x = Plant.withSlaves(1);
        x.point(1, 3, 0);
        x.point(1, 3, 1);
        Plant.ticks(x, 7);
        x.request(1, 6, 0, 0, 5);
        x.tick();
        Plant.dueLine(x, 0, 2, 1, 0);
        x.request(1, 6, 1, 0, 6);
        x.tick();
        Plant.dueLine(x, 0, 2, 1, 64);
        x.tick();
        Plant.dueLine(x, 0, 1, 1, 65);
        x.tick();
        Plant.dueLine(x, 0, 0, 1, 1);
        Plant.dueSample(x, 0, 10, 0, 5);
        Plant.dueSample(x, 1, 11, 1, 0);
    }
}
