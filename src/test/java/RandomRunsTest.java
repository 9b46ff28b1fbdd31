import java.util.Random;

/** All promises: the same random calls to the class and to PlainMoulds, 512 for each object, from fixed seeds. */
public final class RandomRunsTest {
    private static final int RUNS = 150;
    private static final int CALLS = 512;
    private static final int[] EXTREMES = {Integer.MIN_VALUE, -1000, -1, 1000, Integer.MAX_VALUE};

    public static void main(String[] args) {
        for (int seed = 1; seed <= RUNS; seed++) {
            run(seed);
        }
        Calls.end();
    }

    private static void run(int seed) {
        Random random = new Random(seed);
        ChocolateMoulds moulds = new ChocolateMoulds();
        PlainMoulds plain = new PlainMoulds();
        // In some runs a call in five is a wrong one, in others hardly any.
        int wrongOneIn = seed % 3 == 0 ? 5 : 60;
        for (int number = 1; number < CALLS; number += 2) {
            String call = nextCall(random, wrongOneIn);
            String want = Calls.answer(plain, call);
            String got = Calls.answer(moulds, call);
            String where = "seed " + seed + ", call " + number + ": " + call;
            Calls.due(where, got, want);
            String digest = Calls.answer(moulds, "digest");
            String wantedDigest = Calls.answer(plain, "digest");
            Calls.due(where + ", the digest behind it", digest, wantedDigest);
            if (!got.equals(want) || !digest.equals(wantedDigest)) {
                return;
            }
        }
    }

    private static String nextCall(Random random, int wrongOneIn) {
        Numbers n = new Numbers(random, wrongOneIn);
        switch (random.nextInt(30)) {
            case 0:
                return "bowl " + n.from(0, 2000);
            case 1: case 2: case 3:
                return "warm " + n.bowl() + n.from(15, 50) + n.from(1, random.nextInt(4) == 0 ? 40 : 4);
            case 4: case 5:
                return "seed " + n.bowl() + n.from(1, 30);
            case 6:
                return "pour " + n.bowl() + n.bowl();
            case 7: case 8: case 9: case 10:
                return "cast " + n.bowl() + n.from(1, random.nextBoolean() ? 3 : 6) + n.from(1, 3);
            case 11: case 12:
                return "polish " + n.slab();
            case 13: case 14: case 15:
                return "split " + n.slab() + n.from(1, 2) + random.nextBoolean();
            case 16: case 17:
                return "melt " + n.slab() + n.bowl();
            case 18: case 19:
                return "box " + n.from(1, random.nextInt(4) == 0 ? 36 : 6) + n.from(0, 100);
            case 20:
                return "fill";
            case 21: case 22:
                return "pass " + n.from(10, random.nextBoolean() ? 40 : 26) + n.from(1, random.nextInt(5) == 0 ? 60 : 2);
            case 23:
                return "told " + n.bowl() + n.from(0, 7);
            case 24:
                return "about " + n.slab() + n.from(0, 6);
            case 25:
                return random.nextBoolean() ? "order " + n.from(0, 5) + n.from(0, 4) : "count " + n.from(0, 7);
            case 26:
                return "would " + n.bowl() + n.from(15, 50) + n.from(1, 40);
            case 27:
                return random.nextInt(4) == 0 ? "best " + n.bowl() + n.from(1, 10) + n.from(0, 2) : "mean";
            case 28:
                return "until " + n.slab() + n.from(10, 40);
            default:
                return "advise";
        }
    }

    /** Numbers for a call, each with a space behind it; now and then one that is just outside, or far. */
    private static final class Numbers {
        private final Random random;
        private final int wrongOneIn;

        Numbers(Random random, int wrongOneIn) {
            this.random = random;
            this.wrongOneIn = wrongOneIn;
        }

        String bowl() {
            return from(0, 4);
        }

        String slab() {
            return from(0, random.nextInt(3) == 0 ? 7 : 3);
        }

        String from(int least, int most) {
            if (random.nextInt(wrongOneIn) != 0) {
                return least + random.nextInt(most - least + 1) + " ";
            }
            switch (random.nextInt(4)) {
                case 0:
                    return EXTREMES[random.nextInt(EXTREMES.length)] + " ";
                case 1:
                    return least - 1 + " ";
                default:
                    return most + 1 + " ";
            }
        }
    }
}
