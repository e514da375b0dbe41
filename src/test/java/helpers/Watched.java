import java.util.ArrayList;
import java.util.List;

/** A SerialPlant whose calls are written down with their answers, and are at most 512. */
final class Watched {
    private static final int MOST_CALLS = 512;

    private final SerialPlant plant = new SerialPlant();
    private final List<String> calls = new ArrayList<>();
    private final List<Long> answers = new ArrayList<>();

    int told() {
        return calls.size();
    }

    String callAt(int k) {
        return calls.get(k);
    }

    long answerAt(int k) {
        return answers.get(k);
    }

    private long tell(String call, long answer) {
        calls.add(call);
        answers.add(answer);
        if (calls.size() == MOST_CALLS + 1) {
            Due.yes("a test with more than " + MOST_CALLS + " calls on one object", false);
        }
        return answer;
    }

    private boolean tell(String call, boolean answer) {
        return tell(call, answer ? 1 : 0) == 1;
    }

    boolean attach(int slave, int line, int delay) {
        return tell("attach(" + slave + ", " + line + ", " + delay + ")", plant.attach(slave, line, delay));
    }

    boolean power(int slave, boolean on) {
        return tell("power(" + slave + ", " + on + ")", plant.power(slave, on));
    }

    boolean process(int slave, int table, int address, int value) {
        return tell("process(" + slave + ", " + table + ", " + address + ", " + value + ")",
            plant.process(slave, table, address, value));
    }

    int cell(int slave, int table, int address) {
        return (int) tell("cell(" + slave + ", " + table + ", " + address + ")", plant.cell(slave, table, address));
    }

    int point(int slave, int table, int address) {
        return (int) tell("point(" + slave + ", " + table + ", " + address + ")", plant.point(slave, table, address));
    }

    int request(int unit, int function, int address, int count, long value) {
        return (int) tell("request(" + unit + ", " + function + ", " + address + ", " + count + ", " + value + ")",
            plant.request(unit, function, address, count, value));
    }

    boolean fault(int line, boolean answer, int bit) {
        return tell("fault(" + line + ", " + answer + ", " + bit + ")", plant.fault(line, answer, bit));
    }

    int tick() {
        return (int) tell("tick()", plant.tick());
    }

    long reply(int n, int which) {
        return tell("reply(" + n + ", " + which + ")", plant.reply(n, which));
    }

    int line(int line, int which) {
        return (int) tell("line(" + line + ", " + which + ")", plant.line(line, which));
    }

    int wire(int line, boolean answer, int k) {
        return (int) tell("wire(" + line + ", " + answer + ", " + k + ")", plant.wire(line, answer, k));
    }

    int sample(int k, int which) {
        return (int) tell("sample(" + k + ", " + which + ")", plant.sample(k, which));
    }

    int samples(int point, int from, int to) {
        return (int) tell("samples(" + point + ", " + from + ", " + to + ")", plant.samples(point, from, to));
    }
}
