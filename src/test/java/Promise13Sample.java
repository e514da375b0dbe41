/** Promise 13: sample, and which samples are kept and stored. */
public final class Promise13Sample {
    public static void main(String[] args) {
        answersNoneElsewhere();
        keepsTheFirstOneEvenOfZero();
        keepsChangesAlone();
        tellsTheTimeOfTheAnswer();
        storesTheLatestTwelve();
        remembersALatestWordThatIsNotStoredAnyMore();
        line0ComesFirst();
        anAnswerThatIsNotTakenIsNoSample();
        Due.end();
    }

    private static void answersNoneElsewhere() {
        SerialPlant x = Plant.withSlaves(0);
        x.point(1, 3, 0);
        x.point(2, 3, 0);
        Plant.ticks(x, 8);
        Plant.dueSample(x, 0, 8, 0, 0);
        Plant.dueSample(x, 1, 8, 1, 0);
        for (int k : new int[] {-1, 2, 11, 12, 13, Integer.MIN_VALUE, Integer.MAX_VALUE}) {
            for (int which = 0; which <= 2; which++) {
                Due.none("sample(" + k + ", " + which + ")", x.sample(k, which));
            }
        }
        for (int which : new int[] {-1, 3, Integer.MIN_VALUE, Integer.MAX_VALUE}) {
            Due.none("sample(0, " + which + ")", x.sample(0, which));
        }
    }

    private static void keepsTheFirstOneEvenOfZero() {
        SerialPlant x = Plant.withSlaves(0);
        x.point(1, 4, 0);
        Plant.ticks(x, 24);
        Plant.dueSample(x, 0, 8, 0, 0);
        Due.none("sample(1, 0)", x.sample(1, 0));
    }

    private static void keepsChangesAlone() {
        SerialPlant x = Plant.withSlaves(0);
        x.point(1, 4, 0);
        x.point(2, 4, 0);
        int[] words = {65535, 65535, 3, 65535, 65535, 0, 0};
        for (int word : words) {
            x.process(1, 4, 0, word);
            Plant.ticks(x, 8);
        }
        Plant.dueSample(x, 0, 8, 0, 65535);
        Plant.dueSample(x, 1, 8, 1, 0);
        Plant.dueSample(x, 2, 24, 0, 3);
        Plant.dueSample(x, 3, 32, 0, 65535);
        Plant.dueSample(x, 4, 48, 0, 0);
        Due.none("sample(5, 0)", x.sample(5, 0));
    }

    private static void tellsTheTimeOfTheAnswer() {
        for (int delay = 0; delay <= 5; delay++) {
            SerialPlant x = Plant.withSlaves(delay);
            x.process(1, 4, 6, 66);
            x.point(1, 4, 6);
            Plant.ticks(x, 8);
            x.process(1, 4, 6, 67);
            Plant.ticks(x, 7);
            if (delay < 3) {
                Plant.dueSample(x, 0, 8 + delay, 0, 66);
            }
            Due.none("delay " + delay + ": sample", x.sample(delay < 3 ? 1 : 0, 0));
        }
    }

    private static void storesTheLatestTwelve() {
        for (int rounds = 1; rounds <= 27; rounds++) {
            SerialPlant x = Plant.withSlaves(0);
            x.point(1, 4, 0);
            for (int round = 1; round <= rounds; round++) {
                x.process(1, 4, 0, 1000 + round);
                Plant.ticks(x, 8);
            }
            int oldest = rounds <= 12 ? 1 : rounds - 11;
            int stored = rounds - oldest + 1;
            for (int k = 0; k < stored; k++) {
                Plant.dueSample(x, k, 8 * (oldest + k), 0, 1000 + oldest + k);
            }
            Due.none("sample(" + stored + ", 2)", x.sample(stored, 2));
        }
    }

    private static void remembersALatestWordThatIsNotStoredAnyMore() {
        SerialPlant x = Plant.withSlaves(0);
        x.point(2, 4, 0);
        x.point(1, 4, 0);
        x.process(2, 4, 0, 7);
        for (int round = 1; round <= 20; round++) {
            x.process(1, 4, 0, round);
            Plant.ticks(x, 8);
        }
        Due.is("samples(0, 0, 999)", x.samples(0, 0, 999), 0);
        Plant.dueSample(x, 0, 72, 1, 9);
        Plant.dueSample(x, 11, 160, 1, 20);
        x.process(2, 4, 0, 8);
        Plant.ticks(x, 8);
        Plant.dueSample(x, 11, 168, 0, 8);
        Plant.dueSample(x, 0, 80, 1, 10);
    }

    private static void line0ComesFirst() {
        SerialPlant x = Plant.withSlaves(0);
        x.point(2, 4, 0);
        x.point(1, 4, 0);
        Plant.ticks(x, 8);
        Plant.dueSample(x, 0, 8, 1, 0);
        Plant.dueSample(x, 1, 8, 0, 0);
    }

    private static void anAnswerThatIsNotTakenIsNoSample() {
        SerialPlant x = Plant.withSlaves(0);
        x.point(1, 4, 0);
        x.request(1, 4, 0, 1, 0);
        Plant.ticks(x, 7);
        Due.none("sample(0, 0) after a request", x.sample(0, 0));
        x.power(1, false);
        Plant.ticks(x, 12);
        Due.none("sample(0, 0) of an off slave", x.sample(0, 0));
        x.power(1, true);
        Plant.ticks(x, 5);
        Plant.dueSample(x, 0, 24, 0, 0);
    }
}
