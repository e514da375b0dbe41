/**
 * A gateway that carries requests to slaves on two serial lines, and a poller that keeps how some of
 * the slaves' words change. DOC.md tells what every call promises.
 */
public final class SerialPlant {
    public static final int NONE = -1;

    private static final int SLAVES = 6;
    private static final int LINES = 2;
    private static final int MOST_DELAY = 5;
    private static final int MOST_UNIT = 247;
    private static final int MOST_FUNCTION = 127;
    private static final int MOST_WORD = 65535;
    private static final int MOST_COUNT = 16;
    private static final int MOST_FAULT_BIT = 400;
    private static final int MOST_REQUESTS = 64;
    private static final int MOST_POINTS = 4;
    private static final int QUEUE_PLACES = 4;
    private static final int STORED_SAMPLES = 12;
    private static final int POLL_PERIOD = 8;
    private static final int MOST_ATTEMPTS = 3;
    private static final int ANSWER_WAIT = 3;
    private static final int BROADCAST_WAIT = 2;
    private static final int BROADCAST_UNIT = 0;

    private static final int COILS = 1;
    private static final int INPUTS = 2;
    private static final int HOLDINGS = 3;
    private static final int MEASURES = 4;
    private static final int BIT_PLACES = 16;
    private static final int WORD_PLACES = 8;
    private static final int MOST_WORDS_AT_ONCE = 4;

    private static final int READ_COILS = 1;
    private static final int READ_INPUTS = 2;
    private static final int READ_HOLDINGS = 3;
    private static final int READ_MEASURES = 4;
    private static final int WRITE_COIL = 5;
    private static final int WRITE_HOLDING = 6;
    private static final int DIAGNOSE = 8;
    private static final int WRITE_COILS = 15;
    private static final int WRITE_HOLDINGS = 16;
    private static final int MASK_HOLDING = 22;
    private static final int EXCEPTION_MARK = 128;

    private static final int COIL_ON = 65280;
    private static final int KIND_ECHO = 0;
    private static final int KIND_SPEAK_AGAIN = 1;
    private static final int KIND_LISTEN_ONLY = 4;

    private static final int WELL = 0;
    private static final int BAD_FUNCTION = 1;
    private static final int BAD_ADDRESS = 2;
    private static final int BAD_VALUE = 3;
    private static final int NO_PATH = 10;
    private static final int NO_ANSWER = 11;

    private static final int WAITING = 0;
    private static final int ANSWERED = 1;
    private static final int EXCEPTION = 2;
    private static final int BROADCAST = 3;

    private static final int SUM_START = 65535;
    private static final int SUM_TURN = 40961;
    // The longest frame writes 16 holdings: 7 bytes, 16 words, and the sum.
    private static final int FRAME_BYTES = 41;

    private final Slave[] slaves;
    private final Line[] lines;
    private final Request[] requests;
    private final Poll[] polls;
    private final History history;
    private int requestCount;
    private int pointCount;
    private int time;

    public SerialPlant() {
        slaves = new Slave[SLAVES];
        for (int i = 0; i < SLAVES; i++) {
            slaves[i] = new Slave(i + 1);
        }
        lines = new Line[LINES];
        for (int i = 0; i < LINES; i++) {
            lines[i] = new Line(i);
        }
        requests = new Request[MOST_REQUESTS];
        polls = new Poll[MOST_POINTS];
        history = new History();
    }

    public boolean attach(int slave, int line, int delay) {
        if (!isSlave(slave) || !isLine(line) || !isWithin(delay, MOST_DELAY)) {
            return false;
        }
        Slave newcomer = slaves[slave - 1];
        if (newcomer.isAttached()) {
            return false;
        }
        newcomer.line = line;
        newcomer.delay = delay;
        return true;
    }

    public boolean power(int slave, boolean on) {
        if (!isSlave(slave)) {
            return false;
        }
        slaves[slave - 1].on = on;
        return true;
    }

    public boolean process(int slave, int table, int address, int value) {
        if (!isSlave(slave) || (table != INPUTS && table != MEASURES)) {
            return false;
        }
        int[] places = slaves[slave - 1].tableOf(table);
        int most = table == INPUTS ? 1 : MOST_WORD;
        if (!isPlace(places, address) || !isWithin(value, most)) {
            return false;
        }
        places[address] = value;
        return true;
    }

    public int cell(int slave, int table, int address) {
        if (!isSlave(slave) || table < COILS || table > MEASURES) {
            return NONE;
        }
        int[] places = slaves[slave - 1].tableOf(table);
        return isPlace(places, address) ? places[address] : NONE;
    }

    public int point(int slave, int table, int address) {
        if (!isAttachedSlave(slave) || pointCount >= MOST_POINTS) {
            return NONE;
        }
        if ((table != HOLDINGS && table != MEASURES) || !isWithin(address, WORD_PLACES - 1)) {
            return NONE;
        }
        int number = pointCount;
        polls[number] = new Poll(number, slave, table, address, history);
        pointCount++;
        return number;
    }

    public int request(int unit, int function, int address, int count, long value) {
        if (!isWithin(unit, MOST_UNIT) || function < 1 || function > MOST_FUNCTION) {
            return NONE;
        }
        if (!isWithin(address, MOST_WORD) || !isWithin(count, MOST_COUNT) || requestCount >= MOST_REQUESTS) {
            return NONE;
        }
        int number = requestCount;
        Request made = new Request(number, unit, function, address, count, value);
        requests[number] = made;
        requestCount++;
        accept(made);
        return number;
    }

    public boolean fault(int line, boolean answer, int bit) {
        if (!isLine(line) || !isWithin(bit, MOST_FAULT_BIT)) {
            return false;
        }
        // Any one turned bit makes the frame a dropped one, and wire() shows the frame as it was
        // before: so which bit it is shows nowhere, and only that a fault waits is kept.
        return lines[line].wayOf(answer).plantFault();
    }

    public int tick() {
        time++;
        if (time % POLL_PERIOD == 0) {
            queuePolls();
        }
        for (int i = 0; i < LINES; i++) {
            serve(lines[i]);
        }
        return time;
    }

    public long reply(int n, int which) {
        Request asked = n >= 0 && n < requestCount ? requests[n] : null;
        if (asked == null) {
            return NONE;
        }
        switch (which) {
            case 0:
                return asked.state;
            case 1:
                return asked.exception;
            case 2:
                return asked.result;
            default:
                return NONE;
        }
    }

    public int line(int line, int which) {
        if (!isLine(line)) {
            return NONE;
        }
        Line asked = lines[line];
        switch (which) {
            case 0:
                return asked.queued;
            case 1:
                return asked.attempts;
            case 2:
                return asked.current == null ? NONE : asked.current.number;
            default:
                return NONE;
        }
    }

    public int wire(int line, boolean answer, int k) {
        if (!isLine(line)) {
            return NONE;
        }
        Frame latest = lines[line].wayOf(answer).frame;
        return k == NONE ? latest.length : latest.byteAt(k);
    }

    public int sample(int k, int which) {
        return history.part(k, which);
    }

    public int samples(int point, int from, int to) {
        return history.countOf(point, from, to);
    }

    private static boolean isWithin(int number, int most) {
        return number >= 0 && number <= most;
    }

    private static boolean isSlave(int slave) {
        return slave >= 1 && slave <= SLAVES;
    }

    private static boolean isLine(int line) {
        return line >= 0 && line < LINES;
    }

    private static boolean isPlace(int[] places, int address) {
        return address >= 0 && address < places.length;
    }

    private boolean isAttachedSlave(int unit) {
        return isSlave(unit) && slaves[unit - 1].isAttached();
    }

    /** Gives a new request its place in a queue, or its end where it has none. */
    private void accept(Request made) {
        if (made.isBroadcast()) {
            made.state = BROADCAST;
            for (int i = 0; i < LINES; i++) {
                lines[i].enqueue(made);
            }
        } else if (!enqueue(made)) {
            made.refuse(NO_PATH);
        }
    }

    /** Puts a job in the queue of its slave's line; false when it has no such line or no place there. */
    private boolean enqueue(Job job) {
        if (!isAttachedSlave(job.unit)) {
            return false;
        }
        int line = slaves[job.unit - 1].line;
        return isLine(line) && lines[line].enqueue(job);
    }

    private void queuePolls() {
        for (int i = 0; i < pointCount; i++) {
            Poll poll = polls[i];
            if (poll != null && !isOnItsWay(poll)) {
                enqueue(poll);
            }
        }
    }

    private boolean isOnItsWay(Job job) {
        for (int i = 0; i < LINES; i++) {
            if (lines[i].has(job)) {
                return true;
            }
        }
        return false;
    }

    /** What a tick does on one line. */
    private void serve(Line line) {
        takeAnswer(line);
        if (line.isOverdue(time)) {
            if (line.maySendAgain()) {
                send(line);
                takeAnswer(line);
            } else {
                line.giveUp();
            }
        }
        if (line.startNext()) {
            send(line);
            takeAnswer(line);
        }
    }

    /** Ends the line's job if its answer comes now. */
    private void takeAnswer(Line line) {
        Job job = line.current;
        if (job != null && line.answerTime == time) {
            line.release();
            job.take(line.answers.frame, time);
        }
    }

    /** Sends the line's job and, where a slave answers it, the answer. */
    private void send(Line line) {
        Job job = line.current;
        if (job == null) {
            return;
        }
        line.markSending(time);
        job.writeTo(line.requests.frame);
        if (line.requests.spendFault()) {
            return;
        }
        Slave answering = deliver(line, job);
        if (answering == null) {
            return;
        }
        answering.writeAnswer(job, line.requests.frame, line.answers.frame);
        boolean damaged = line.answers.spendFault();
        if (!damaged && answering.delay < ANSWER_WAIT) {
            line.answerTime = time + answering.delay;
        }
    }

    /** Lets the slaves of a line do a job; answers the one that answers it, or null. */
    private Slave deliver(Line line, Job job) {
        Slave answering = null;
        for (int i = 0; i < SLAVES; i++) {
            Slave slave = slaves[i];
            if (slave.line == line.number && slave.isMeantBy(job) && slave.obey(job)) {
                answering = slave;
            }
        }
        return answering;
    }

    /** A row of bytes as it goes over a line. */
    private static final class Frame {
        final int[] bytes = new int[FRAME_BYTES];
        int length;

        void begin(int unit, int function) {
            length = 0;
            addByte(unit);
            addByte(function);
        }

        void addByte(int value) {
            if (length < FRAME_BYTES) {
                bytes[length] = value & 255;
                length++;
            }
        }

        void addWord(int word) {
            addByte(word >> 8);
            addByte(word);
        }

        void addSum() {
            int sum = SUM_START;
            for (int i = 0; i < length && i < FRAME_BYTES; i++) {
                sum ^= bytes[i];
                for (int turn = 0; turn < 8; turn++) {
                    sum = (sum & 1) == 1 ? (sum >> 1) ^ SUM_TURN : sum >> 1;
                }
            }
            addByte(sum);
            addByte(sum >> 8);
        }

        int byteAt(int k) {
            return k >= 0 && k < length && k < FRAME_BYTES ? bytes[k] : NONE;
        }

        /** The word at bytes k and k + 1; 0 when they are not there. */
        int wordAt(int k) {
            return k >= 0 && k < length - 1 && k < FRAME_BYTES - 1 ? (bytes[k] << 8) | bytes[k + 1] : 0;
        }

        void copyFrom(Frame other) {
            length = other.length;
            for (int i = 0; i < length && i < FRAME_BYTES; i++) {
                bytes[i] = other.bytes[i];
            }
        }
    }

    /** One direction of a line: the latest frame that went there, and whether a fault waits. */
    private static final class Way {
        final Frame frame = new Frame();
        boolean faultWaits;

        boolean plantFault() {
            if (faultWaits) {
                return false;
            }
            faultWaits = true;
            return true;
        }

        /** Tells whether the frame that is sent now is damaged; the fault is over then. */
        boolean spendFault() {
            boolean damaged = faultWaits;
            faultWaits = false;
            return damaged;
        }
    }

    /** What a line carries: a request's words, and what becomes of its answer. */
    private abstract static class Job {
        /** What line() tells of it: the number of a request, or 64 plus that of a point. */
        final int number;
        final int unit;
        final int function;
        final int address;
        final int count;
        final long value;

        Job(int number, int unit, int function, int address, int count, long value) {
            this.number = number;
            this.unit = unit;
            this.function = function;
            this.address = address;
            this.count = count;
            this.value = value;
        }

        /** An answer has come, and the job is over. */
        abstract void take(Frame answer, int now);

        /** No answer came to any attempt, and the job is over. */
        abstract void goUnanswered();

        boolean isBroadcast() {
            return unit == BROADCAST_UNIT;
        }

        int word(int k) {
            return (int) (value >>> (16 * (k & 3))) & MOST_WORD;
        }

        int bit(int k) {
            return (int) (value >>> k) & 1;
        }

        int bitBytes() {
            return (count + 7) / 8;
        }

        /** The number of the exception that a slave has to answer with; WELL when there is none. */
        int refusal() {
            switch (function) {
                case READ_COILS:
                case READ_INPUTS:
                case WRITE_COILS:
                    return spanRefusal(BIT_PLACES, BIT_PLACES);
                case READ_HOLDINGS:
                case READ_MEASURES:
                case WRITE_HOLDINGS:
                    return spanRefusal(MOST_WORDS_AT_ONCE, WORD_PLACES);
                case WRITE_COIL:
                    if (word(0) != 0 && word(0) != COIL_ON) {
                        return BAD_VALUE;
                    }
                    return address < BIT_PLACES ? WELL : BAD_ADDRESS;
                case WRITE_HOLDING:
                case MASK_HOLDING:
                    return address < WORD_PLACES ? WELL : BAD_ADDRESS;
                case DIAGNOSE:
                    return isKnownKind() ? WELL : BAD_VALUE;
                default:
                    return BAD_FUNCTION;
            }
        }

        int spanRefusal(int mostCount, int places) {
            if (count < 1 || count > mostCount) {
                return BAD_VALUE;
            }
            return address + count <= places ? WELL : BAD_ADDRESS;
        }

        boolean isKnownKind() {
            return address == KIND_ECHO || address == KIND_SPEAK_AGAIN || address == KIND_LISTEN_ONLY;
        }

        void writeTo(Frame frame) {
            frame.begin(unit, function);
            switch (function) {
                case READ_COILS:
                case READ_INPUTS:
                case READ_HOLDINGS:
                case READ_MEASURES:
                    frame.addWord(address);
                    frame.addWord(count);
                    break;
                case WRITE_COIL:
                case WRITE_HOLDING:
                case DIAGNOSE:
                    frame.addWord(address);
                    frame.addWord(word(0));
                    break;
                case MASK_HOLDING:
                    frame.addWord(address);
                    frame.addWord(word(0));
                    frame.addWord(word(1));
                    break;
                case WRITE_COILS:
                    frame.addWord(address);
                    frame.addWord(count);
                    addBits(frame);
                    break;
                case WRITE_HOLDINGS:
                    frame.addWord(address);
                    frame.addWord(count);
                    addWords(frame);
                    break;
                default:
                    break;
            }
            frame.addSum();
        }

        void addBits(Frame frame) {
            long bits = value & ((1L << count) - 1);
            frame.addByte(bitBytes());
            for (int j = 0; j < bitBytes(); j++) {
                frame.addByte((int) (bits >>> (8 * j)));
            }
        }

        void addWords(Frame frame) {
            frame.addByte(2 * count);
            for (int k = 0; k < count; k++) {
                frame.addWord(word(k));
            }
        }
    }

    /** A job that a caller of the gateway asked for. */
    private static final class Request extends Job {
        int state = WAITING;
        int exception;
        long result;

        Request(int number, int unit, int function, int address, int count, long value) {
            super(number, unit, function, address, count, value);
        }

        void refuse(int reason) {
            state = EXCEPTION;
            exception = reason;
        }

        void take(Frame answer, int now) {
            if (answer.byteAt(1) >= EXCEPTION_MARK) {
                refuse(answer.byteAt(2));
            } else {
                state = ANSWERED;
                result = read(answer);
            }
        }

        void goUnanswered() {
            refuse(NO_ANSWER);
        }

        long read(Frame answer) {
            switch (function) {
                case READ_COILS:
                case READ_INPUTS:
                    return readBits(answer);
                case READ_HOLDINGS:
                case READ_MEASURES:
                    return readWords(answer);
                case MASK_HOLDING:
                    return answer.wordAt(4) | ((long) answer.wordAt(6) << 16);
                default:
                    return answer.wordAt(4);
            }
        }

        long readBits(Frame answer) {
            long bits = 0;
            for (int j = 0; j < bitBytes(); j++) {
                bits |= (long) answer.byteAt(3 + j) << (8 * j);
            }
            return bits;
        }

        long readWords(Frame answer) {
            long words = 0;
            for (int k = 0; k < count; k++) {
                words |= (long) answer.wordAt(3 + 2 * k) << (16 * k);
            }
            return words;
        }
    }

    /** The read of a point's word, which comes again and again. */
    private static final class Poll extends Job {
        final int point;
        final History history;

        Poll(int point, int slave, int table, int address, History history) {
            // The function that reads a table has the table's number.
            super(MOST_REQUESTS + point, slave, table, address, 1, 0L);
            this.point = point;
            this.history = history;
        }

        void take(Frame answer, int now) {
            if (answer.byteAt(1) < EXCEPTION_MARK) {
                history.keep(now, point, answer.wordAt(3));
            }
        }

        void goUnanswered() {
            // The poller asks again by itself at a later tick.
        }
    }

    /** A slave's tables and state. */
    private static final class Slave {
        final int number;
        final int[] coils = new int[BIT_PLACES];
        final int[] inputs = new int[BIT_PLACES];
        final int[] holdings = new int[WORD_PLACES];
        final int[] measures = new int[WORD_PLACES];
        int line = NONE;
        int delay;
        boolean on = true;
        boolean listenOnly;

        Slave(int number) {
            this.number = number;
        }

        boolean isAttached() {
            return line != NONE;
        }

        boolean isMeantBy(Job job) {
            return job.isBroadcast() || job.unit == number;
        }

        int[] tableOf(int table) {
            switch (table) {
                case COILS:
                    return coils;
                case INPUTS:
                    return inputs;
                case HOLDINGS:
                    return holdings;
                default:
                    return measures;
            }
        }

        /** Does a job that has arrived; tells whether the slave answers it. */
        boolean obey(Job job) {
            boolean silent = listenOnly;
            if (!on || (silent && job.function != DIAGNOSE)) {
                return false;
            }
            if (job.refusal() == WELL) {
                carryOut(job);
            }
            return !job.isBroadcast() && !silent && !listenOnly;
        }

        void carryOut(Job job) {
            switch (job.function) {
                case WRITE_COIL:
                    put(coils, job.address, job.word(0) == COIL_ON ? 1 : 0);
                    break;
                case WRITE_HOLDING:
                    put(holdings, job.address, job.word(0));
                    break;
                case MASK_HOLDING:
                    put(holdings, job.address, masked(get(holdings, job.address), job.word(0), job.word(1)));
                    break;
                case WRITE_COILS:
                    for (int k = 0; k < job.count; k++) {
                        put(coils, job.address + k, job.bit(k));
                    }
                    break;
                case WRITE_HOLDINGS:
                    for (int k = 0; k < job.count; k++) {
                        put(holdings, job.address + k, job.word(k));
                    }
                    break;
                case DIAGNOSE:
                    changeMode(job.address);
                    break;
                default:
                    break;
            }
        }

        void changeMode(int kind) {
            if (kind == KIND_SPEAK_AGAIN) {
                listenOnly = false;
            } else if (kind == KIND_LISTEN_ONLY) {
                listenOnly = true;
            }
        }

        /** Writes the answer to a job that the slave has just done, or refused to do. */
        void writeAnswer(Job job, Frame asked, Frame answer) {
            int refusal = job.refusal();
            if (refusal != WELL) {
                answer.begin(job.unit, job.function + EXCEPTION_MARK);
                answer.addByte(refusal);
                answer.addSum();
                return;
            }
            switch (job.function) {
                case READ_COILS:
                case READ_INPUTS:
                    writeBits(job, answer);
                    break;
                case READ_HOLDINGS:
                case READ_MEASURES:
                    writeWords(job, answer);
                    break;
                case WRITE_COILS:
                case WRITE_HOLDINGS:
                    answer.begin(job.unit, job.function);
                    answer.addWord(job.address);
                    answer.addWord(job.count);
                    answer.addSum();
                    break;
                default:
                    answer.copyFrom(asked);
                    break;
            }
        }

        void writeBits(Job job, Frame frame) {
            // The function that reads a table has the table's number.
            int[] places = tableOf(job.function);
            frame.begin(job.unit, job.function);
            frame.addByte(job.bitBytes());
            for (int j = 0; j < job.bitBytes(); j++) {
                int packed = 0;
                for (int i = 0; i < 8 && 8 * j + i < job.count; i++) {
                    packed |= get(places, job.address + 8 * j + i) << i;
                }
                frame.addByte(packed);
            }
            frame.addSum();
        }

        void writeWords(Job job, Frame frame) {
            int[] places = tableOf(job.function);
            frame.begin(job.unit, job.function);
            frame.addByte(2 * job.count);
            for (int k = 0; k < job.count; k++) {
                frame.addWord(get(places, job.address + k));
            }
            frame.addSum();
        }

        static int masked(int held, int and, int or) {
            return (held & and) | (or & ~and);
        }

        static int get(int[] places, int address) {
            return address >= 0 && address < places.length ? places[address] : 0;
        }

        static void put(int[] places, int address, int value) {
            if (address >= 0 && address < places.length) {
                places[address] = value;
            }
        }
    }

    /** A serial line: its queue, and the job that it is busy with. */
    private static final class Line {
        final int number;
        final Way requests = new Way();
        final Way answers = new Way();
        final Job[] queue = new Job[QUEUE_PLACES];
        int queued;
        Job current;
        int attempts;
        int sentTime;
        int answerTime = NONE;

        Line(int number) {
            this.number = number;
        }

        Way wayOf(boolean answer) {
            return answer ? answers : requests;
        }

        /** Puts a job at the end of the queue; false when four are there. */
        boolean enqueue(Job job) {
            if (queued >= QUEUE_PLACES) {
                return false;
            }
            queue[queued] = job;
            queued++;
            return true;
        }

        boolean has(Job job) {
            for (int i = 0; i < queued && i < QUEUE_PLACES; i++) {
                if (queue[i] == job) {
                    return true;
                }
            }
            return current == job;
        }

        /** Makes the line busy with the first job of its queue; false when it is busy or has none. */
        boolean startNext() {
            if (current != null || queued == 0) {
                return false;
            }
            current = queue[0];
            queued--;
            for (int i = 0; i < queued && i + 1 < QUEUE_PLACES; i++) {
                queue[i] = queue[i + 1];
            }
            return true;
        }

        void markSending(int now) {
            attempts++;
            sentTime = now;
            answerTime = NONE;
        }

        boolean isOverdue(int now) {
            if (current == null) {
                return false;
            }
            int wait = current.isBroadcast() ? BROADCAST_WAIT : ANSWER_WAIT;
            return now - sentTime >= wait;
        }

        boolean maySendAgain() {
            return current != null && !current.isBroadcast() && attempts < MOST_ATTEMPTS;
        }

        /** Ends the job that no answer has come to; of a broadcast none was awaited. */
        void giveUp() {
            Job job = current;
            release();
            if (job != null && !job.isBroadcast()) {
                job.goUnanswered();
            }
        }

        void release() {
            current = null;
            attempts = 0;
            answerTime = NONE;
        }
    }

    /** The latest samples that were kept, the oldest of them giving way to a new one. */
    private static final class History {
        final int[] times = new int[STORED_SAMPLES];
        final int[] points = new int[STORED_SAMPLES];
        final int[] words = new int[STORED_SAMPLES];
        /** The latest word kept of each point, whether its sample is still stored or not. */
        final int[] latest = {NONE, NONE, NONE, NONE};
        int oldest;
        int stored;

        void keep(int now, int point, int word) {
            if (point < 0 || point >= latest.length || latest[point] == word) {
                return;
            }
            latest[point] = word;
            int place = (oldest + stored) % STORED_SAMPLES;
            times[place] = now;
            points[place] = point;
            words[place] = word;
            if (stored < STORED_SAMPLES) {
                stored++;
            } else {
                oldest = (oldest + 1) % STORED_SAMPLES;
            }
        }

        int part(int k, int which) {
            if (k < 0 || k >= stored) {
                return NONE;
            }
            int place = (oldest + k) % STORED_SAMPLES;
            switch (which) {
                case 0:
                    return times[place];
                case 1:
                    return points[place];
                case 2:
                    return words[place];
                default:
                    return NONE;
            }
        }

        int countOf(int point, int from, int to) {
            int count = 0;
            for (int k = 0; k < stored; k++) {
                int place = (oldest + k) % STORED_SAMPLES;
                if (points[place] == point && times[place] >= from && times[place] <= to) {
                    count++;
                }
            }
            return count;
        }
    }
}
