/** "Terms", sending: attempts, faults that are over, delays, and answers that would come too late. */
public final class EdgeTermsSending {
    public static void main(String[] args) {
        Due.holds("SENDING a job on a line: ATTEMPTS of it grows by 1; its frame is sent.", EdgeTermsSending::attemptsGrow);
        Due.holds("If a fault waits for a request's frame of the line, the frame is damaged and the fault is over.",
            EdgeTermsSending::requestFaultIsOver);
        Due.holds("if a fault waits for an answer's frame, this is damaged and the fault is over", EdgeTermsSending::answerFaultIsOver);
        Due.holds("Else the slaves of the line get it; if one answers, its answer's frame is sent",
            EdgeTermsSending::noAnswerNoFrame);
        Due.holds("else the answer COMES after as many ticks as the slave's delay says (0: at once).",
            EdgeTermsSending::delays);
        Due.holds("A job whose answer comes is over: a request gets the state ANSWERED or EXCEPTION by it, a poll is TAKEN,"
            + " and the line is busy no more.", EdgeTermsSending::jobIsOver);
        Due.holds("An answer that would come three ticks after the sending, or later, is dropped when it comes.",
            EdgeTermsSending::lateAnswersAreDropped);
        Due.end();
    }

    private static void attemptsGrow() {
        SerialPlant x = Plant.withSlaves(0);
        x.power(1, false);
        x.request(1, 6, 0, 0, 5);
        x.request(1, 6, 1, 0, 6);
        Plant.dueLine(x, 0, 2, 0, -1);
        Due.is("wire(0, false, -1)", x.wire(0, false, -1), 0);
        int[] attempts = {1, 1, 1, 2, 2, 2, 3, 3, 3};
        for (int due : attempts) {
            x.tick();
            Plant.dueLine(x, 0, 1, due, 0);
            Plant.dueFrame(x, 0, false, 1, 6, 0, 0, 0, 5);
        }
        // The next job's attempts begin anew.
        x.tick();
        Plant.dueLine(x, 0, 0, 1, 1);
        Plant.dueFrame(x, 0, false, 1, 6, 0, 1, 0, 6);
        // A broadcast is a job of its own on each line.
        SerialPlant y = Plant.withSlaves(0);
        y.request(0, 6, 0, 0, 5);
        y.tick();
        Plant.dueLine(y, 0, 0, 1, 0);
        Plant.dueLine(y, 1, 0, 1, 0);
    }

    private static void requestFaultIsOver() {
        SerialPlant x = Plant.withSlaves(0);
        x.fault(0, false, 3);
        x.tick();
        Due.no("fault(0, false, 3) as long as nothing is sent", x.fault(0, false, 3));
        x.request(2, 6, 0, 0, 5);
        x.tick();
        Due.is("cell(2, 3, 0) on the other line", x.cell(2, 3, 0), 5);
        Due.no("fault(0, false, 3) when the other line has sent", x.fault(0, false, 3));
        x.request(1, 6, 0, 0, 5);
        x.tick();
        Due.is("cell(1, 3, 0) after a damaged frame", x.cell(1, 3, 0), 0);
        // It is over: a new one can be made, which damages the second attempt; and one more the third.
        Due.yes("fault(0, false, 3) after the first", x.fault(0, false, 3));
        Plant.ticks(x, 3);
        Due.is("cell(1, 3, 0) after a second damaged frame", x.cell(1, 3, 0), 0);
        Due.yes("fault(0, false, 3) after the second", x.fault(0, false, 3));
        Plant.ticks(x, 5);
        Plant.dueReply(x, 1, 0, 0, 0);
        x.tick();
        Plant.dueReply(x, 1, 2, 11, 0);
        Due.is("cell(1, 3, 0)", x.cell(1, 3, 0), 0);
        x.request(1, 6, 0, 0, 6);
        x.tick();
        Plant.dueReply(x, 2, 1, 0, 6);
    }

    private static void answerFaultIsOver() {
        SerialPlant x = Plant.withSlaves(0);
        x.fault(0, true, 3);
        x.request(1, 22, 0, 0, 0x0001_FFFEL);
        x.tick();
        Due.is("cell(1, 3, 0): it is done", x.cell(1, 3, 0), 1);
        Plant.dueReply(x, 0, 0, 0, 0);
        Due.yes("fault(0, true, 3) after the first", x.fault(0, true, 3));
        Plant.ticks(x, 3);
        Due.yes("fault(0, true, 3) after the second", x.fault(0, true, 3));
        Plant.ticks(x, 5);
        Plant.dueReply(x, 0, 0, 0, 0);
        x.tick();
        Plant.dueReply(x, 0, 2, 11, 0);
        x.request(1, 6, 0, 0, 6);
        x.tick();
        Plant.dueReply(x, 1, 1, 0, 6);
        // An exception's frame is an answer's frame as well.
        x.fault(0, true, 3);
        x.request(1, 99, 0, 0, 0);
        x.tick();
        Plant.dueReply(x, 2, 0, 0, 0);
        Plant.ticks(x, 3);
        Plant.dueReply(x, 2, 2, 1, 0);
        // So is the frame of an answer that would come too late.
        SerialPlant late = Plant.withSlaves(3);
        late.fault(0, true, 3);
        late.request(1, 6, 0, 0, 6);
        late.tick();
        Due.yes("fault(0, true, 3) after a late answer", late.fault(0, true, 3));
    }

    private static void noAnswerNoFrame() {
        SerialPlant x = Plant.withSlaves(0);
        x.fault(0, true, 0);
        x.fault(0, false, 0);
        x.request(1, 3, 0, 1, 0);
        x.tick();
        Due.is("wire(0, true, -1) after a damaged request", x.wire(0, true, -1), 0);
        Due.no("fault(0, true, 0), which no frame has met,", x.fault(0, true, 0));
        x.power(1, false);
        Plant.ticks(x, 3);
        Due.is("wire(0, true, -1) of an off slave", x.wire(0, true, -1), 0);
        Due.no("fault(0, true, 0), which no frame has met,", x.fault(0, true, 0));
        x.power(1, true);
        Plant.ticks(x, 3);
        Due.is("wire(0, true, -1) of the third attempt", x.wire(0, true, -1), 7);
        Due.yes("fault(0, true, 0), as the first is over,", x.fault(0, true, 0));
    }

    private static void delays() {
        for (int delay = 0; delay <= 2; delay++) {
            SerialPlant x = Plant.withSlaves(delay);
            x.request(1, 6, 0, 0, 5);
            x.tick();
            for (int t = 0; t < delay; t++) {
                Plant.dueReply(x, 0, 0, 0, 0);
                Plant.dueLine(x, 0, 0, 1, 0);
                x.tick();
            }
            Plant.dueReply(x, 0, 1, 0, 5);
            Plant.dueLine(x, 0, 0, 0, -1);
        }
        // The same of a second and a third attempt.
        for (int delay = 0; delay <= 2; delay++) {
            SerialPlant x = Plant.withSlaves(delay);
            x.power(1, false);
            x.request(1, 6, 0, 0, 5);
            Plant.ticks(x, 6);
            x.power(1, true);
            x.tick();
            for (int t = 0; t < delay; t++) {
                Plant.dueReply(x, 0, 0, 0, 0);
                Plant.dueLine(x, 0, 0, 3, 0);
                x.tick();
            }
            Plant.dueReply(x, 0, 1, 0, 5);
            Plant.dueLine(x, 0, 0, 0, -1);
        }
    }

    private static void jobIsOver() {
        SerialPlant x = Plant.withSlaves(2);
        x.request(1, 6, 7, 0, 5);
        x.request(1, 6, 8, 0, 5);
        x.request(2, 6, 8, 0, 5);
        Plant.ticks(x, 3);
        Plant.dueReply(x, 0, 1, 0, 5);
        Plant.dueReply(x, 2, 2, 2, 0);
        Plant.dueLine(x, 1, 0, 0, -1);
        Plant.ticks(x, 2);
        Plant.dueReply(x, 1, 2, 2, 0);
        Plant.dueLine(x, 0, 0, 0, -1);
        x.point(1, 3, 7);
        Plant.ticks(x, 4);
        Plant.dueLine(x, 0, 0, 1, 64);
        Due.none("sample(0, 0)", x.sample(0, 0));
        x.tick();
        Plant.dueLine(x, 0, 0, 0, -1);
        Plant.dueSample(x, 0, 10, 0, 5);
        // What is over is not sent again.
        Plant.ticks(x, 5);
        Plant.dueLine(x, 0, 0, 0, -1);
        Plant.dueReply(x, 0, 1, 0, 5);
        Plant.dueReply(x, 1, 2, 2, 0);
    }

    private static void lateAnswersAreDropped() {
        for (int delay = 2; delay <= 5; delay++) {
            SerialPlant x = Plant.withSlaves(delay);
            x.request(1, 6, 0, 0, 5);
            for (int t = 1; t <= 9; t++) {
                x.tick();
                boolean came = delay == 2 && t >= 3;
                Due.is("delay " + delay + ", tick " + t + ": reply(0, 0)", x.reply(0, 0), came ? 1 : 0);
                Due.is("delay " + delay + ", tick " + t + ": line(0, 1)", x.line(0, 1), came ? 0 : (t + 2) / 3);
            }
            x.tick();
            Due.is("delay " + delay + ": reply(0, 1)", x.reply(0, 1), delay == 2 ? 0 : 11);
            // The late answers of the attempts come when the line is free, or busy with another job.
            x.attach(3, 0, 2);
            x.request(3, 6, 0, 0, 7);
            Plant.ticks(x, 2);
            Due.is("delay " + delay + ": reply(1, 0)", x.reply(1, 0), 0);
            Due.is("delay " + delay + ": line(0, 2)", x.line(0, 2), 1);
            x.tick();
            Due.is("delay " + delay + ": reply(1, 2)", x.reply(1, 2), 7);
            Due.is("delay " + delay + ": reply(0, 0)", x.reply(0, 0), delay == 2 ? 1 : 2);
        }
        // A slow slave's poll is never taken.
        for (int delay = 2; delay <= 5; delay++) {
            SerialPlant x = Plant.withSlaves(delay);
            x.point(2, 3, 0);
            Plant.ticks(x, 40);
            Due.is("delay " + delay + ": samples(0, 0, 99)", x.samples(0, 0, 99), delay == 2 ? 1 : 0);
        }
    }
}
