import java.util.ArrayDeque;
import java.util.ArrayList;
import java.util.Deque;
import java.util.List;

/**
 * The document told a second time, with the Java library and without care for room, so that long runs of
 * calls can be compared. It shares no code with the program and reads no frame: it carries values.
 */
final class PlantModel {
    private static final class Slave {
        int line = -1;
        int delay;
        boolean on = true;
        boolean mute;
        final int[][] tables = {null, new int[16], new int[16], new int[8], new int[8]};
    }

    private static final class Job {
        int id;
        int unit;
        int function;
        int address;
        int count;
        long value;
        int state;
        long number;
        long answered;

        int word(int k) {
            return (int) (value >> 16 * (k % 4) & 0xFFFF);
        }
    }

    private static final class Line {
        final Deque<Job> queue = new ArrayDeque<>();
        Job job;
        int attempts;
        int ticksSinceSending;
        int ticksToAnswer = -1;
        int[] outcome;
        long result;
        final boolean[] faults = new boolean[2];
        final List<List<Integer>> frames = new ArrayList<>(List.of(List.of(), List.of()));
    }

    private final Slave[] slaves = new Slave[7];
    private final Line[] lines = {new Line(), new Line()};
    private final List<Job> requests = new ArrayList<>();
    private final List<Job> points = new ArrayList<>();
    private final List<int[]> kept = new ArrayList<>();
    private int time;

    PlantModel() {
        for (int i = 1; i <= 6; i++) {
            slaves[i] = new Slave();
        }
    }

    private static boolean in(int x, int low, int high) {
        return low <= x && x <= high;
    }

    boolean attach(int slave, int line, int delay) {
        if (!in(slave, 1, 6) || !in(line, 0, 1) || !in(delay, 0, 5) || slaves[slave].line >= 0) {
            return false;
        }
        slaves[slave].line = line;
        slaves[slave].delay = delay;
        return true;
    }

    boolean power(int slave, boolean on) {
        if (in(slave, 1, 6)) {
            slaves[slave].on = on;
        }
        return in(slave, 1, 6);
    }

    boolean process(int slave, int table, int address, int value) {
        boolean well = table == 2 ? in(value, 0, 1) : table == 4 && in(value, 0, 65535);
        if (!well || cell(slave, table, address) < 0) {
            return false;
        }
        slaves[slave].tables[table][address] = value;
        return true;
    }

    int cell(int slave, int table, int address) {
        if (!in(slave, 1, 6) || !in(table, 1, 4) || !in(address, 0, table < 3 ? 15 : 7)) {
            return -1;
        }
        return slaves[slave].tables[table][address];
    }

    int point(int slave, int table, int address) {
        if (!in(slave, 1, 6) || slaves[slave].line < 0 || !in(table, 3, 4) || !in(address, 0, 7) || points.size() == 4) {
            return -1;
        }
        Job poll = new Job();
        poll.id = 64 + points.size();
        poll.unit = slave;
        poll.function = table;
        poll.address = address;
        poll.count = 1;
        points.add(poll);
        return poll.id - 64;
    }

    int request(int unit, int function, int address, int count, long value) {
        boolean well = in(unit, 0, 247) && in(function, 1, 127) && in(address, 0, 65535) && in(count, 0, 16);
        if (!well || requests.size() == 64) {
            return -1;
        }
        Job job = new Job();
        job.id = requests.size();
        job.unit = unit;
        job.function = function;
        job.address = address;
        job.count = count;
        job.value = value;
        requests.add(job);
        if (unit == 0) {
            job.state = 3;
            for (Line line : lines) {
                if (line.queue.size() < 4) {
                    line.queue.add(job);
                }
            }
        } else if (unit > 6 || slaves[unit].line < 0 || lines[slaves[unit].line].queue.size() == 4) {
            job.state = 2;
            job.number = 10;
        } else {
            lines[slaves[unit].line].queue.add(job);
        }
        return job.id;
    }

    boolean fault(int line, boolean answer, int bit) {
        if (!in(line, 0, 1) || !in(bit, 0, 400) || lines[line].faults[answer ? 1 : 0]) {
            return false;
        }
        lines[line].faults[answer ? 1 : 0] = true;
        return true;
    }

    int tick() {
        time++;
        for (Job poll : time % 8 == 0 ? points : List.<Job>of()) {
            Line line = lines[slaves[poll.unit].line];
            if (line.job != poll && !line.queue.contains(poll) && line.queue.size() < 4) {
                line.queue.addLast(poll);
            }
        }
        for (Line line : lines) {
            if (line.job != null) {
                goOn(line);
            }
            if (line.job == null && !line.queue.isEmpty()) {
                line.job = line.queue.removeFirst();
                line.attempts = 0;
                send(line);
            }
        }
        return time;
    }

    private void goOn(Line line) {
        line.ticksSinceSending++;
        if (line.ticksToAnswer > 0 && --line.ticksToAnswer == 0) {
            if (line.ticksSinceSending < 3) {
                come(line);
                return;
            }
        }
        if (line.job.unit == 0) {
            if (line.ticksSinceSending == 2) {
                line.job = null;
            }
        } else if (line.ticksSinceSending == 3) {
            if (line.attempts < 3) {
                send(line);
            } else {
                if (line.job.id < 64) {
                    line.job.state = 2;
                    line.job.number = 11;
                }
                line.job = null;
            }
        }
    }

    private void come(Line line) {
        Job job = line.job;
        line.job = null;
        if (job.id < 64) {
            job.state = line.outcome[0];
            job.number = line.outcome[1];
            job.answered = line.result;
        } else if (line.outcome[0] == 1) {
            int word = (int) line.result;
            int latest = -1;
            for (int[] sample : kept) {
                latest = sample[1] == job.id - 64 ? sample[2] : latest;
            }
            if (latest != word) {
                kept.add(new int[] {time, job.id - 64, word});
            }
        }
    }

    private void send(Line line) {
        Job job = line.job;
        line.attempts++;
        line.ticksSinceSending = 0;
        line.ticksToAnswer = -1;
        List<Integer> sent = requestBody(job);
        line.frames.set(0, withSum(sent));
        if (line.faults[0]) {
            line.faults[0] = false;
            return;
        }
        for (int s = 1; s <= 6; s++) {
            Slave slave = slaves[s];
            if (slave.line < 0 || lines[slave.line] != line || !slave.on || (job.unit != 0 && job.unit != s)) {
                continue;
            }
            boolean muteBefore = slave.mute;
            if (muteBefore && job.function != 8) {
                continue;
            }
            List<Integer> answer = act(slave, job, sent, line);
            if (job.unit == 0 || muteBefore || slave.mute) {
                continue;
            }
            line.frames.set(1, withSum(answer));
            if (line.faults[1]) {
                line.faults[1] = false;
            } else if (slave.delay == 0) {
                come(line);
            } else {
                line.ticksToAnswer = slave.delay;
            }
        }
    }

    private static int exceptionOf(Job job) {
        int f = job.function;
        boolean bits = f == 1 || f == 2 || f == 15;
        boolean words = f == 3 || f == 4 || f == 16;
        if (!bits && !words && f != 5 && f != 6 && f != 8 && f != 22) {
            return 1;
        }
        if ((bits && !in(job.count, 1, 16)) || (words && !in(job.count, 1, 4))) {
            return 3;
        }
        if (f == 5 && job.word(0) != 0 && job.word(0) != 65280) {
            return 3;
        }
        if (f == 8) {
            return job.address == 0 || job.address == 1 || job.address == 4 ? 0 : 3;
        }
        int end = job.address + (bits || words ? job.count : 1);
        return end > (bits || f == 5 ? 16 : 8) ? 2 : 0;
    }

    /** The body of the answer; what reply() is to tell of it is left with the line. */
    private List<Integer> act(Slave slave, Job job, List<Integer> sent, Line line) {
        List<Integer> body = new ArrayList<>(List.of(job.unit, job.function));
        int exception = exceptionOf(job);
        line.outcome = new int[] {exception == 0 ? 1 : 2, exception};
        line.result = 0;
        if (exception != 0) {
            return List.of(job.unit, job.function + 128, exception);
        }
        int f = job.function;
        if (f <= 4) {
            int width = f <= 2 ? 1 : 16;
            for (int k = 0; k < job.count; k++) {
                line.result |= (long) slave.tables[f][job.address + k] << width * k;
            }
            int bytes = f <= 2 ? (job.count + 7) / 8 : 2 * job.count;
            body.add(bytes);
            for (int j = 0; j < bytes; j++) {
                int from = f <= 2 ? j : j ^ 1;
                body.add((int) (line.result >> 8 * from & 255));
            }
            return body;
        }
        if (f == 15 || f == 16) {
            for (int k = 0; k < job.count; k++) {
                slave.tables[f == 15 ? 1 : 3][job.address + k] = f == 15 ? (int) (job.value >> k & 1) : job.word(k);
            }
            line.result = job.count;
            return new ArrayList<>(sent.subList(0, 6));
        }
        line.result = f == 22 ? job.value & 0xFFFFFFFFL : job.value & 0xFFFF;
        if (f == 5) {
            slave.tables[1][job.address] = job.word(0) / 65280;
        } else if (f == 6) {
            slave.tables[3][job.address] = job.word(0);
        } else if (f == 22) {
            int h = slave.tables[3][job.address];
            slave.tables[3][job.address] = (h & job.word(0)) | (job.word(1) & ~job.word(0));
        } else if (job.address != 0) {
            slave.mute = job.address == 4;
        }
        return sent;
    }

    private static List<Integer> requestBody(Job job) {
        List<Integer> body = new ArrayList<>(List.of(job.unit, job.function));
        List<Integer> words = new ArrayList<>();
        int f = job.function;
        if (in(f, 1, 4) || f == 15 || f == 16) {
            words = new ArrayList<>(List.of(job.address, job.count));
        } else if (f == 5 || f == 6 || f == 8) {
            words = new ArrayList<>(List.of(job.address, job.word(0)));
        } else if (f == 22) {
            words = new ArrayList<>(List.of(job.address, job.word(0), job.word(1)));
        }
        for (int word : words) {
            body.add(word / 256);
            body.add(word % 256);
        }
        if (f == 15) {
            int bytes = job.count == 0 ? 0 : job.count <= 8 ? 1 : 2;
            body.add(bytes);
            for (int j = 0; j < bytes; j++) {
                int packed = 0;
                for (int i = 0; i < 8; i++) {
                    packed += 8 * j + i < job.count && (job.value >> 8 * j + i & 1) == 1 ? 1 << i : 0;
                }
                body.add(packed);
            }
        } else if (f == 16) {
            body.add(2 * job.count);
            for (int k = 0; k < job.count; k++) {
                body.add(job.word(k) / 256);
                body.add(job.word(k) % 256);
            }
        }
        return body;
    }

    private static List<Integer> withSum(List<Integer> body) {
        int sum = Plant.sumOf(body.stream().mapToInt(Integer::intValue).toArray());
        List<Integer> frame = new ArrayList<>(body);
        frame.add(sum % 256);
        frame.add(sum / 256);
        return frame;
    }

    long reply(int n, int which) {
        if (!in(n, 0, requests.size() - 1) || !in(which, 0, 2)) {
            return -1;
        }
        Job job = requests.get(n);
        return which == 0 ? job.state : which == 1 ? job.number : job.answered;
    }

    int line(int line, int which) {
        if (!in(line, 0, 1) || !in(which, 0, 2)) {
            return -1;
        }
        Line l = lines[line];
        boolean busy = l.job != null;
        return which == 0 ? l.queue.size() : which == 1 ? (busy ? l.attempts : 0) : busy ? l.job.id : -1;
    }

    int wire(int line, boolean answer, int k) {
        if (!in(line, 0, 1)) {
            return -1;
        }
        List<Integer> frame = lines[line].frames.get(answer ? 1 : 0);
        return k == -1 ? frame.size() : in(k, 0, frame.size() - 1) ? frame.get(k) : -1;
    }

    private List<int[]> stored() {
        return kept.subList(Math.max(0, kept.size() - 12), kept.size());
    }

    int sample(int k, int which) {
        return in(k, 0, stored().size() - 1) && in(which, 0, 2) ? stored().get(k)[which] : -1;
    }

    int samples(int point, int from, int to) {
        return (int) stored().stream().filter(s -> s[1] == point && s[0] >= from && s[0] <= to).count();
    }
}
