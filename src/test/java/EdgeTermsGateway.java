/** "Terms", the gateway: numbers, states, full queues, and broadcasts. */
public final class EdgeTermsGateway {
    public static void main(String[] args) {
        Due.holds("THE GATEWAY numbers requests 0, 1, ..; at most 64 are made.", EdgeTermsGateway::sixtyFourRequests);
        Due.holds("A request's STATE is 0 WAITING, 1 ANSWERED, 2 EXCEPTION (with the number of the answer's byte, or 10 or"
            + " 11), 3 BROADCAST.", EdgeTermsGateway::states);
        Due.holds("Each line has a QUEUE of at most 4 jobs, and may be BUSY with one more.", EdgeTermsGateway::fourAndOneMore);
        Due.holds("A request for a unit that is no attached slave, [..] is an EXCEPTION 10 at once.",
            EdgeTermsGateway::noAttachedSlave);
        Due.holds("or whose line has four in its queue, is an EXCEPTION 10 at once.", EdgeTermsGateway::fullQueue);
        Due.holds("Else it is put at the end of the queue of its line.", EdgeTermsGateway::atTheEnd);
        Due.holds("A broadcast is BROADCAST at once", EdgeTermsGateway::broadcastAtOnce);
        Due.holds("and is put at the end of the queue of each line that has fewer than four there.",
            EdgeTermsGateway::broadcastsAndFullQueues);
        Due.end();
    }

    private static void sixtyFourRequests() {
        SerialPlant x = Plant.withSlaves(0);
        for (int n = 0; n < 64; n++) {
            Due.none("reply(" + n + ", 0) before it is made", x.reply(n, 0));
            Due.is("request " + n, x.request(n % 3, 6, 0, 0, n), n);
            x.tick();
        }
        for (int unit = 0; unit <= 3; unit++) {
            Due.none("request 64 for unit " + unit, x.request(unit, 6, 1, 0, 99));
        }
        Due.none("reply(64, 0)", x.reply(64, 0));
        Plant.ticks(x, 20);
        Due.is("cell(1, 3, 1)", x.cell(1, 3, 1), 0);
        Due.is("cell(2, 3, 1)", x.cell(2, 3, 1), 0);
        Due.is("reply(63, 0)", x.reply(63, 0), 3);
    }

    private static void states() {
        SerialPlant x = Plant.withSlaves(0);
        x.attach(3, 1, 3);
        x.request(1, 6, 0, 0, 7);
        Plant.dueReply(x, 0, 0, 0, 0);
        x.tick();
        Plant.dueReply(x, 0, 1, 0, 7);
        int n = 1;
        long[][] unwell = {{99, 0, 1, 1}, {3, 8, 1, 2}, {3, 0, 0, 3}};
        for (long[] u : unwell) {
            x.request(1, (int) u[0], (int) u[1], (int) u[2], 0);
            Plant.dueReply(x, n, 0, 0, 0);
            x.tick();
            Plant.dueReply(x, n, 2, (int) u[3], 0);
            n++;
        }
        x.request(4, 3, 0, 1, 0);
        Plant.dueReply(x, n, 2, 10, 0);
        x.request(3, 6, 0, 0, 8);
        Plant.ticks(x, 9);
        Plant.dueReply(x, n + 1, 0, 0, 0);
        x.tick();
        Plant.dueReply(x, n + 1, 2, 11, 0);
        x.request(0, 6, 0, 0, 9);
        Plant.dueReply(x, n + 2, 3, 0, 0);
    }

    private static void fourAndOneMore() {
        for (int line = 0; line < 2; line++) {
            SerialPlant x = new SerialPlant();
            x.attach(5, line, 2);
            x.request(5, 6, 0, 0, 1);
            x.tick();
            for (int k = 1; k <= 4; k++) {
                Plant.dueLine(x, line, k - 1, 1, 0);
                x.request(5, 6, k, 0, 1);
            }
            Plant.dueLine(x, line, 4, 1, 0);
            x.request(5, 6, 5, 0, 1);
            Plant.dueLine(x, line, 4, 1, 0);
            Plant.dueReply(x, 5, 2, 10, 0);
            Plant.dueLine(x, 1 - line, 0, 0, -1);
            Plant.ticks(x, 11);
            for (int k = 0; k < 8; k++) {
                Due.is("cell(5, 3, " + k + ")", x.cell(5, 3, k), k < 5 ? 1 : 0);
            }
        }
    }

    private static void noAttachedSlave() {
        SerialPlant x = new SerialPlant();
        x.attach(1, 0, 0);
        x.attach(2, 1, 0);
        int n = 0;
        for (int unit : new int[] {3, 6, 7, 8, 246, 247}) {
            Due.is("request(" + unit + ", 6, 0, 0, 1)", x.request(unit, 6, 0, 0, 1), n);
            Plant.dueReply(x, n, 2, 10, 0);
            Plant.dueLine(x, 0, 0, 0, -1);
            Plant.dueLine(x, 1, 0, 0, -1);
            n++;
        }
        // A slave that is attached afterwards doesn't get it; an off one is attached, and has a line.
        x.attach(3, 0, 0);
        Plant.ticks(x, 10);
        Plant.dueReply(x, 0, 2, 10, 0);
        Due.is("cell(3, 3, 0)", x.cell(3, 3, 0), 0);
        Due.is("wire(0, false, -1)", x.wire(0, false, -1), 0);
        x.power(2, false);
        x.request(2, 6, 0, 0, 1);
        Plant.dueReply(x, n, 0, 0, 0);
        Plant.dueLine(x, 1, 1, 0, -1);
    }

    private static void fullQueue() {
        SerialPlant x = Plant.withSlaves(0);
        x.attach(3, 0, 0);
        for (int n = 0; n < 6; n++) {
            x.request(n % 2 == 0 ? 1 : 3, 6, n, 0, 1);
            Plant.dueReply(x, n, n < 4 ? 0 : 2, n < 4 ? 0 : 10, 0);
            Due.is("line(0, 0)", x.line(0, 0), n < 4 ? n + 1 : 4);
        }
        x.request(2, 6, 0, 0, 1);
        Plant.dueReply(x, 6, 0, 0, 0);
        // A place is free again once the first one was taken out.
        x.tick();
        x.request(1, 6, 7, 0, 1);
        Plant.dueReply(x, 7, 0, 0, 0);
        x.request(1, 6, 6, 0, 1);
        Plant.dueReply(x, 8, 2, 10, 0);
        Plant.ticks(x, 6);
        int[] first = {1, 0, 1, 0, 0, 0, 0, 1};
        int[] third = {0, 1, 0, 1, 0, 0, 0, 0};
        for (int k = 0; k < 8; k++) {
            Due.is("cell(1, 3, " + k + ")", x.cell(1, 3, k), first[k]);
            Due.is("cell(3, 3, " + k + ")", x.cell(3, 3, k), third[k]);
        }
        Plant.dueReply(x, 4, 2, 10, 0);
        Plant.dueReply(x, 5, 2, 10, 0);
    }

    private static void atTheEnd() {
        SerialPlant x = Plant.withSlaves(1);
        for (int n = 0; n < 4; n++) {
            x.request(1, 6, 0, 0, 100 + n);
        }
        for (int n = 0; n < 12; n++) {
            x.tick();
            Plant.dueLine(x, 0, 3, 1, n);
            Due.is("cell(1, 3, 0)", x.cell(1, 3, 0), 100 + n);
            x.request(1, 6, 0, 0, 104 + n);
            Due.is("line(0, 0)", x.line(0, 0), 4);
        }
    }

    private static void broadcastAtOnce() {
        SerialPlant x = new SerialPlant();
        for (int function : new int[] {1, 6, 8, 127}) {
            int n = x.request(0, function, 65535, 0, -1);
            Plant.dueReply(x, n, 3, 0, 0);
        }
        Plant.dueLine(x, 0, 4, 0, -1);
        Plant.dueLine(x, 1, 4, 0, -1);
        // The lines being full, it is BROADCAST all the same.
        int n = x.request(0, 6, 0, 0, 1);
        Plant.dueReply(x, n, 3, 0, 0);
        Plant.ticks(x, 12);
        for (int k = 0; k <= n; k++) {
            Plant.dueReply(x, k, 3, 0, 0);
        }
    }

    private static void broadcastsAndFullQueues() {
        for (int before = 0; before <= 4; before++) {
            for (int full = 0; full < 2; full++) {
                SerialPlant x = Plant.withSlaves(0);
                for (int n = 0; n < before; n++) {
                    x.request(full + 1, 3, 0, 1, 0);
                }
                x.request(0, 6, 0, 0, 9);
                Plant.dueReply(x, before, 3, 0, 0);
                Due.is("line(" + full + ", 0) with " + before + " before", x.line(full, 0), before < 4 ? before + 1 : 4);
                Due.is("line(" + (1 - full) + ", 0)", x.line(1 - full, 0), 1);
                x.request(full + 1, 6, 1, 0, 8);
                Plant.ticks(x, 12);
                Due.is("cell of the full line", x.cell(full + 1, 3, 0), before < 4 ? 9 : 0);
                Due.is("cell of the other line", x.cell(2 - full, 3, 0), 9);
                Due.is("cell after it", x.cell(full + 1, 3, 1), before < 3 ? 8 : 0);
                // It stood at the end: the reads before it were answered before it was done.
                for (int n = 0; n < before; n++) {
                    Plant.dueReply(x, n, 1, 0, 0);
                }
            }
        }
    }
}
