/** Promise 9: tick at its edges (what a tick does is tested with the terms). */
public final class Edge09Tick {
    public static void main(String[] args) {
        Due.holds("A tick. Answers T.", Edge09Tick::answersT);
        Due.holds("A tick. Answers T.", Edge09Tick::nothingElseMovesT);
        Due.end();
    }

    private static void answersT() {
        SerialPlant empty = new SerialPlant();
        for (int t = 1; t <= 512; t++) {
            Due.is("tick()", empty.tick(), t);
        }
        SerialPlant full = Plant.withSlaves(5);
        for (int i = 0; i < 4; i++) {
            full.point(1 + i % 2, 3, i);
        }
        for (int n = 0; n < 64; n++) {
            full.request(n % 3, 3, 0, 1, 0);
        }
        for (int t = 1; t <= 400; t++) {
            Due.is("tick() of a full object", full.tick(), t);
        }
    }

    private static void nothingElseMovesT() {
        SerialPlant x = new SerialPlant();
        x.attach(1, 0, 0);
        x.power(1, true);
        x.process(1, 4, 0, 1);
        x.point(1, 4, 0);
        x.request(1, 4, 0, 1, 0);
        x.fault(0, false, 0);
        Due.is("tick() after other calls", x.tick(), 1);
        x.cell(1, 4, 0);
        x.reply(0, 0);
        x.line(0, 0);
        x.wire(0, false, 0);
        x.sample(0, 0);
        x.samples(0, 0, 0);
        x.attach(1, 0, 0);
        x.request(248, 0, 0, 0, 0);
        Due.is("tick() after looks and refused calls", x.tick(), 2);
    }
}
