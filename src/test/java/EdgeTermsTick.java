/** "Terms", a tick: when polls are put, when a line waits no longer, and what is sent next. */
public final class EdgeTermsTick {
    public static void main(String[] args) {
        Due.holds("the clock T, 0 at first, grows by 1.", EdgeTermsTick::clockGrowsByOne);
        Due.holds("If T is a multiple of 8, the poller puts, for each POINT in order, a POLL (a read of one word) at the end"
            + " of the queue of its slave's line", EdgeTermsTick::multiplesOfEight);
        Due.holds("for each POINT in order", EdgeTermsTick::pointsInOrder);
        Due.holds("unless a poll of this point is in the queue", EdgeTermsTick::pollInTheQueue);
        Due.holds("or on the line", EdgeTermsTick::pollOnTheLine);
        Due.holds("or four are in the queue.", EdgeTermsTick::fourInTheQueue);
        Due.holds("Then for line 0, then line 1", EdgeTermsTick::lineZeroFirst);
        Due.holds("if the line is busy: when an answer comes now, its job is over", EdgeTermsTick::answerComesBeforeTheWaitEnds);
        Due.holds("else if three ticks went by since the latest sending", EdgeTermsTick::threeTicksSinceTheLatestSending);
        Due.holds("(two for a broadcast): a broadcast is over", EdgeTermsTick::twoTicksForABroadcast);
        Due.holds("a job with fewer than three attempts is sent again", EdgeTermsTick::fewerThanThreeAttempts);
        Due.holds("another is over, a request then being an EXCEPTION 11.", EdgeTermsTick::anotherIsOver);
        Due.holds("After that, if the line is not busy and jobs are in its queue, the first one is taken out and sent",
            EdgeTermsTick::theFirstOneIsTakenOut);
        Due.holds("and jobs are in its queue", EdgeTermsTick::emptyQueue);
        Due.holds("the line being busy with it (or not, when its answer comes at once).", EdgeTermsTick::busyOrNot);
        Due.end();
    }

    private static void clockGrowsByOne() {
        SerialPlant x = Plant.withSlaves(3);
        x.point(1, 3, 0);
        for (int t = 1; t <= 300; t++) {
            if (t < 60) {
                x.request(t % 3, 6, 0, 0, t);
            }
            Due.is("tick()", x.tick(), t);
        }
    }

    private static void multiplesOfEight() {
        SerialPlant x = Plant.withSlaves(1);
        x.point(1, 4, 7);
        for (int t = 1; t <= 33; t++) {
            x.tick();
            Plant.dueLine(x, 0, 0, t % 8 == 0 ? 1 : 0, t % 8 == 0 ? 64 : -1);
            if (t == 7) {
                Due.is("wire(0, false, -1) at 7", x.wire(0, false, -1), 0);
            }
            if (t % 8 == 0) {
                Plant.dueFrame(x, 0, false, 1, 4, 0, 7, 0, 1);
            }
        }
        // A point that is made after T = 8 waits for 16.
        SerialPlant y = Plant.withSlaves(0);
        Plant.ticks(y, 8);
        y.point(2, 3, 0);
        Plant.ticks(y, 7);
        Due.is("samples(0, 0, 99) at 15", y.samples(0, 0, 99), 0);
        y.tick();
        Due.is("samples(0, 16, 16) at 16", y.samples(0, 16, 16), 1);
    }

    private static void pointsInOrder() {
        SerialPlant x = Plant.withSlaves(1);
        x.point(1, 4, 3);
        x.point(2, 4, 2);
        x.point(1, 3, 1);
        x.point(1, 3, 0);
        Plant.ticks(x, 7);
        x.request(1, 3, 0, 1, 0);
        x.tick();
        // A poll stands at the end, behind the request.
        Plant.dueLine(x, 0, 3, 1, 0);
        Plant.dueLine(x, 1, 0, 1, 65);
        int[] order = {64, 66, 67};
        for (int i = 0; i < 3; i++) {
            x.tick();
            Plant.dueLine(x, 0, 2 - i, 1, order[i]);
        }
    }

    private static void pollInTheQueue() {
        SerialPlant x = Plant.withSlaves(3);
        x.point(1, 3, 0);
        Plant.ticks(x, 7);
        x.request(1, 3, 0, 1, 0);
        x.tick();
        Plant.dueLine(x, 0, 1, 1, 0);
        // At 16 the poll still waits behind the request, which goes to its third attempt.
        Plant.ticks(x, 8);
        Plant.dueLine(x, 0, 1, 3, 0);
        x.tick();
        Plant.dueLine(x, 0, 0, 1, 64);
    }

    private static void pollOnTheLine() {
        SerialPlant x = Plant.withSlaves(3);
        x.point(1, 3, 0);
        x.point(1, 3, 0);
        Plant.ticks(x, 8);
        Plant.dueLine(x, 0, 1, 1, 64);
        // At 16 point 0 is on the line and point 1, of the same place, is in the queue: none is put.
        Plant.ticks(x, 8);
        Plant.dueLine(x, 0, 1, 3, 64);
        x.tick();
        Plant.dueLine(x, 0, 0, 1, 65);
        // At 24 point 1 is on the line, and point 0 is put.
        Plant.ticks(x, 6);
        Plant.dueLine(x, 0, 0, 3, 65);
        x.tick();
        Plant.dueLine(x, 0, 1, 3, 65);
        Plant.ticks(x, 2);
        Plant.dueLine(x, 0, 0, 1, 64);
    }

    private static void fourInTheQueue() {
        for (int before = 2; before <= 4; before++) {
            SerialPlant x = Plant.withSlaves(2);
            x.point(1, 3, 0);
            x.point(2, 3, 0);
            x.point(1, 3, 1);
            Plant.ticks(x, 6);
            x.request(1, 3, 0, 1, 0);
            x.tick();
            for (int n = 0; n < before; n++) {
                x.request(1, 3, 0, 1, 0);
            }
            // T is 7, and the line waits for an answer that comes at 9: at 8 the queue takes up to four.
            Plant.dueLine(x, 0, before, 1, 0);
            x.tick();
            Plant.dueLine(x, 0, 4, 1, 0);
            Plant.dueLine(x, 1, 0, 1, 65);
            // Behind the requests stand the polls that found a place, and no other until 16.
            Plant.ticks(x, 2 * before - 1);
            Plant.dueLine(x, 0, 4 - before, 1, before);
            int[] found = before == 2 ? new int[] {64, 66} : before == 3 ? new int[] {64} : new int[0];
            for (int i = 0; i < found.length; i++) {
                Plant.ticks(x, 2);
                Plant.dueLine(x, 0, found.length - 1 - i, 1, found[i]);
            }
        }
    }

    private static void lineZeroFirst() {
        SerialPlant x = Plant.withSlaves(0);
        x.point(2, 4, 0);
        x.point(1, 4, 0);
        x.process(1, 4, 0, 10);
        x.process(2, 4, 0, 20);
        Plant.ticks(x, 8);
        Plant.dueSample(x, 0, 8, 1, 10);
        Plant.dueSample(x, 1, 8, 0, 20);
    }

    private static void answerComesBeforeTheWaitEnds() {
        SerialPlant x = Plant.withSlaves(2);
        x.request(1, 22, 0, 0, 0x0001_FFFEL);
        Plant.ticks(x, 2);
        Plant.dueLine(x, 0, 0, 1, 0);
        x.tick();
        Plant.dueLine(x, 0, 0, 0, -1);
        Plant.dueReply(x, 0, 1, 0, 0x0001_FFFEL);
        x.tick();
        Plant.dueLine(x, 0, 0, 0, -1);
    }

    private static void threeTicksSinceTheLatestSending() {
        SerialPlant x = Plant.withSlaves(0);
        x.power(1, false);
        Plant.ticks(x, 5);
        x.request(1, 3, 0, 1, 0);
        // Sent at 6, 9 and 12; over at 15: each time three ticks after the latest sending, not the first.
        for (int t = 6; t <= 14; t++) {
            x.tick();
            Plant.dueLine(x, 0, 0, (t - 3) / 3, 0);
            Plant.dueReply(x, 0, 0, 0, 0);
        }
        x.tick();
        Plant.dueLine(x, 0, 0, 0, -1);
        Plant.dueReply(x, 0, 2, 11, 0);
    }

    private static void twoTicksForABroadcast() {
        SerialPlant x = Plant.withSlaves(0);
        x.request(0, 6, 0, 0, 5);
        x.request(0, 6, 0, 0, 6);
        int[] busyWith = {0, 0, 1, 1};
        for (int n : busyWith) {
            x.tick();
            Plant.dueLine(x, 0, 1 - n, 1, n);
            Plant.dueLine(x, 1, 1 - n, 1, n);
            Due.is("cell(1, 3, 0)", x.cell(1, 3, 0), 5 + n);
        }
        x.tick();
        Plant.dueLine(x, 0, 0, 0, -1);
        Plant.dueLine(x, 1, 0, 0, -1);
        // It is sent once, even when it is damaged or nobody is there.
        SerialPlant y = new SerialPlant();
        y.fault(0, false, 0);
        y.request(0, 6, 0, 0, 5);
        Plant.ticks(y, 2);
        Plant.dueLine(y, 0, 0, 1, 0);
        Plant.dueLine(y, 1, 0, 1, 0);
        for (int t = 3; t <= 8; t++) {
            y.tick();
            Plant.dueLine(y, 0, 0, 0, -1);
            Plant.dueLine(y, 1, 0, 0, -1);
        }
        Plant.dueReply(y, 0, 3, 0, 0);
    }

    private static void fewerThanThreeAttempts() {
        for (int dead = 0; dead <= 3; dead++) {
            SerialPlant x = Plant.withSlaves(0);
            x.request(1, 22, 0, 0, 0x0001_FFFEL);
            for (int attempt = 1; attempt <= 4; attempt++) {
                x.power(1, attempt > dead);
                x.tick();
                boolean answered = dead < 3 && attempt > dead;
                Due.is(dead + " dead, attempt " + attempt + ": reply(0, 0)", x.reply(0, 0),
                    answered ? 1 : attempt == 4 ? 2 : 0);
                Due.is(dead + " dead, attempt " + attempt + ": line(0, 1)", x.line(0, 1),
                    answered || attempt == 4 ? 0 : attempt);
                Plant.ticks(x, 2);
            }
            Due.is(dead + " dead: cell(1, 3, 0)", x.cell(1, 3, 0), dead < 3 ? 1 : 0);
        }
    }

    private static void anotherIsOver() {
        SerialPlant x = Plant.withSlaves(0);
        x.power(1, false);
        x.point(1, 3, 0);
        x.request(1, 3, 0, 1, 0);
        Plant.ticks(x, 9);
        Plant.dueReply(x, 0, 0, 0, 0);
        x.tick();
        Plant.dueReply(x, 0, 2, 11, 0);
        // A poll is over as well, and no request's state is touched by it.
        Plant.dueLine(x, 0, 0, 1, 64);
        Plant.ticks(x, 8);
        Plant.dueLine(x, 0, 0, 3, 64);
        x.tick();
        Plant.dueLine(x, 0, 0, 0, -1);
        Plant.dueReply(x, 0, 2, 11, 0);
        Due.none("reply(1, 0)", x.reply(1, 0));
        Due.none("sample(0, 0)", x.sample(0, 0));
        // What is over stays over, even when the slave is on again.
        x.power(1, true);
        Plant.ticks(x, 4);
        Plant.dueReply(x, 0, 2, 11, 0);
    }

    private static void theFirstOneIsTakenOut() {
        SerialPlant x = Plant.withSlaves(2);
        for (int n = 0; n < 3; n++) {
            x.request(1, 6, 0, 0, 10 + n);
        }
        x.tick();
        Plant.dueLine(x, 0, 2, 1, 0);
        Plant.ticks(x, 2);
        // In the tick in which an answer comes the next one is sent,
        Plant.dueReply(x, 0, 1, 0, 10);
        Plant.dueLine(x, 0, 1, 1, 1);
        x.power(1, false);
        Plant.ticks(x, 2);
        Plant.dueLine(x, 0, 0, 1, 2);
        Plant.ticks(x, 8);
        x.request(0, 6, 1, 0, 1);
        x.request(1, 6, 2, 0, 1);
        Plant.dueLine(x, 0, 2, 3, 2);
        // in that in which a job is given up,
        x.tick();
        Plant.dueReply(x, 2, 2, 11, 0);
        Plant.dueLine(x, 0, 1, 1, 3);
        // and in that in which a broadcast is over.
        Plant.ticks(x, 2);
        Plant.dueLine(x, 0, 0, 1, 4);
        // A second attempt that is answered at once frees the line for the next one.
        SerialPlant y = Plant.withSlaves(0);
        y.fault(0, true, 0);
        y.request(1, 6, 0, 0, 1);
        y.request(1, 6, 1, 0, 2);
        y.request(1, 6, 2, 0, 3);
        Plant.ticks(y, 4);
        Plant.dueReply(y, 0, 1, 0, 1);
        Plant.dueReply(y, 1, 1, 0, 2);
        Plant.dueReply(y, 2, 0, 0, 0);
        Plant.dueLine(y, 0, 1, 0, -1);
    }

    private static void emptyQueue() {
        SerialPlant x = Plant.withSlaves(0);
        for (int t = 1; t <= 17; t++) {
            x.tick();
            for (int line = 0; line < 2; line++) {
                Plant.dueLine(x, line, 0, 0, -1);
                Due.is("wire(" + line + ", false, -1)", x.wire(line, false, -1), 0);
            }
        }
        x.request(1, 6, 0, 0, 5);
        x.tick();
        x.request(2, 6, 0, 0, 6);
        Plant.ticks(x, 12);
        Plant.dueFrame(x, 0, false, 1, 6, 0, 0, 0, 5);
        Plant.dueLine(x, 0, 0, 0, -1);
    }

    private static void busyOrNot() {
        for (int delay = 0; delay <= 5; delay++) {
            SerialPlant x = Plant.withSlaves(delay);
            x.request(1, 3, 0, 1, 0);
            x.request(1, 3, 0, 1, 0);
            x.tick();
            // At once or not, only one job is taken out of the queue in a tick.
            Plant.dueLine(x, 0, 1, delay == 0 ? 0 : 1, delay == 0 ? -1 : 0);
            Due.is("delay " + delay + ": reply(0, 0)", x.reply(0, 0), delay == 0 ? 1 : 0);
            Due.is("delay " + delay + ": reply(1, 0)", x.reply(1, 0), 0);
        }
    }
}
