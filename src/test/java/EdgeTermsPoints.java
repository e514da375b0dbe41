/** "Terms", points and samples: what is kept, and what is stored. */
public final class EdgeTermsPoints {
    public static void main(String[] args) {
        Due.holds("POINTS have numbers 0 .. 3: a slave, a table 3 or 4, and an address.", EdgeTermsPoints::numbersZeroToThree);
        Due.holds("When a poll is taken and its answer is a word (no exception), a SAMPLE (T, the point, the word) is kept",
            EdgeTermsPoints::sampleOfATakenPoll);
        Due.holds("if it is the first one of the point", EdgeTermsPoints::theFirstOne);
        Due.holds("or the word is not that of the latest sample of the point that was kept.", EdgeTermsPoints::changesAlone);
        Due.holds("the latest sample of the point that was kept", EdgeTermsPoints::latestOneIsStoredNoMore);
        Due.holds("The latest 12 samples are STORED.", EdgeTermsPoints::latestTwelve);
        Due.end();
    }

    private static void numbersZeroToThree() {
        SerialPlant x = Plant.withSlaves(0);
        int[][] points = {{1, 3, 0}, {1, 4, 7}, {2, 3, 7}, {2, 4, 0}};
        for (int i = 0; i < 4; i++) {
            Due.is("point " + i, x.point(points[i][0], points[i][1], points[i][2]), i);
        }
        Due.none("point 4", x.point(1, 3, 1));
        x.request(1, 6, 0, 0, 30);
        x.request(2, 6, 7, 0, 37);
        x.process(1, 4, 7, 47);
        x.process(2, 4, 0, 40);
        Plant.ticks(x, 9);
        Plant.dueSample(x, 0, 8, 0, 30);
        Plant.dueSample(x, 1, 8, 2, 37);
        Plant.dueSample(x, 2, 9, 1, 47);
        Plant.dueSample(x, 3, 9, 3, 40);
        Plant.ticks(x, 8);
        Due.none("sample(4, 0)", x.sample(4, 0));
    }

    private static void sampleOfATakenPoll() {
        for (int delay = 0; delay <= 5; delay++) {
            SerialPlant x = Plant.withSlaves(delay);
            x.point(1, 4, 0);
            x.process(1, 4, 0, 65535);
            Plant.ticks(x, 8);
            x.process(1, 4, 0, 1);
            Plant.ticks(x, 7);
            Due.is("delay " + delay + ": sample(0, 0)", x.sample(0, 0), delay < 3 ? 8 + delay : -1);
            Due.is("delay " + delay + ": sample(0, 1)", x.sample(0, 1), delay < 3 ? 0 : -1);
            Due.is("delay " + delay + ": sample(0, 2)", x.sample(0, 2), delay < 3 ? 65535 : -1);
            Due.none("delay " + delay + ": sample(1, 0)", x.sample(1, 0));
        }
        // No poll is taken of a slave that is off, in listen-only mode, or damaged three times.
        SerialPlant x = Plant.withSlaves(0);
        x.attach(3, 1, 0);
        x.power(1, false);
        x.point(1, 4, 0);
        x.request(2, 8, 4, 0, 0);
        x.point(2, 4, 0);
        Plant.ticks(x, 23);
        Due.is("samples of both", x.samples(0, 0, 99) + x.samples(1, 0, 99), 0);
        SerialPlant y = Plant.withSlaves(0);
        y.point(1, 4, 0);
        Plant.ticks(y, 7);
        for (int attempt = 1; attempt <= 3; attempt++) {
            y.fault(0, attempt == 2, 0);
            Plant.ticks(y, 3);
        }
        y.tick();
        Plant.dueLine(y, 0, 0, 0, -1);
        Due.none("sample(0, 0) after three faults", y.sample(0, 0));
        // A request for the same word is no poll.
        SerialPlant z = Plant.withSlaves(0);
        z.point(1, 4, 0);
        z.request(1, 4, 0, 1, 0);
        Plant.ticks(z, 7);
        Due.none("sample(0, 0) after a request", z.sample(0, 0));
    }

    private static void theFirstOne() {
        for (int word : new int[] {0, 1, 65535}) {
            SerialPlant x = Plant.withSlaves(0);
            for (int i = 0; i < 4; i++) {
                x.point(1 + i % 2, 4, 5);
            }
            x.process(1, 4, 5, word);
            x.process(2, 4, 5, word);
            // Each point has a first one of its own, though the word is that of the others.
            Plant.ticks(x, 16);
            for (int point = 0; point < 4; point++) {
                Due.is("word " + word + ": samples(" + point + ", 0, 99)", x.samples(point, 0, 99), 1);
            }
            for (int k = 0; k < 4; k++) {
                Due.is("sample(" + k + ", 2)", x.sample(k, 2), word);
            }
            Due.none("sample(4, 2)", x.sample(4, 2));
        }
    }

    private static void changesAlone() {
        SerialPlant x = Plant.withSlaves(0);
        x.point(1, 4, 0);
        x.point(2, 4, 0);
        int[] words = {0, 0, 65535, 65535, 0, 1, 0, 0};
        int[] times = {8, 24, 40, 48, 56};
        int[] kept = {0, 65535, 0, 1, 0};
        for (int word : words) {
            x.process(1, 4, 0, word);
            Plant.ticks(x, 8);
        }
        // Point 1's only sample stands between those of point 0 and changes nothing for it.
        Plant.dueSample(x, 0, times[0], 0, kept[0]);
        Plant.dueSample(x, 1, 8, 1, 0);
        for (int k = 1; k < 5; k++) {
            Plant.dueSample(x, k + 1, times[k], 0, kept[k]);
        }
        Due.none("sample(6, 0)", x.sample(6, 0));
        // A word that came and went between two polls is not seen.
        x.process(1, 4, 0, 9);
        Plant.ticks(x, 7);
        x.process(1, 4, 0, 0);
        x.tick();
        Due.none("sample(6, 0)", x.sample(6, 0));
    }

    private static void latestOneIsStoredNoMore() {
        SerialPlant x = Plant.withSlaves(0);
        x.point(1, 4, 0);
        x.point(2, 4, 0);
        x.process(1, 4, 0, 7);
        for (int round = 1; round <= 12; round++) {
            x.process(2, 4, 0, round);
            Plant.ticks(x, 8);
        }
        // At 96 point 1 has twelve samples, and point 0's is stored no more; its word is still 7.
        Due.is("samples(0, 0, 999)", x.samples(0, 0, 999), 0);
        Due.is("samples(1, 0, 999)", x.samples(1, 0, 999), 12);
        Plant.ticks(x, 16);
        Due.is("samples(0, 0, 999) of the same word", x.samples(0, 0, 999), 0);
        Plant.dueSample(x, 0, 8, 1, 1);
        x.process(1, 4, 0, 0);
        Plant.ticks(x, 8);
        Plant.dueSample(x, 11, 120, 0, 0);
        Plant.dueSample(x, 0, 16, 1, 2);
    }

    private static void latestTwelve() {
        for (int kept : new int[] {1, 11, 12, 13, 23, 24, 25, 37}) {
            SerialPlant x = Plant.withSlaves(0);
            x.point(1, 4, 0);
            for (int round = 1; round <= kept; round++) {
                x.process(1, 4, 0, 500 + round);
                Plant.ticks(x, 8);
            }
            int stored = Math.min(kept, 12);
            for (int k = 0; k < stored; k++) {
                int round = kept - stored + 1 + k;
                Plant.dueSample(x, k, 8 * round, 0, 500 + round);
            }
            Due.none(kept + " kept: sample(" + stored + ", 0)", x.sample(stored, 0));
            Due.is(kept + " kept: samples(0, 0, 999)", x.samples(0, 0, 999), stored);
        }
    }
}
