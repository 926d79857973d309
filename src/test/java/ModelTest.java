import java.util.Random;
import java.util.function.IntSupplier;

/** Long runs of calls, always the same ones, on the program and on the model: each answer must be the same. */
public final class ModelTest {
    private static final int RUNS = 300;
    // Some of these are several calls, so that a run has about the 512 that an object is meant for.
    private static final int CALLS = 280;

    // Where parts of messages begin, and how many bytes they have; of a request, channel, from and to are among them.
    private static final int[] PARTS = {0, 1, 2, 4, 8, 12, 16};
    private static final int[] BYTES = {1, 1, 2, 4, 4, 4, 4};
    private static final int[] EDGES = {0, 3, 100, 1000, 32767, 32768, 65535, Integer.MIN_VALUE, -1};

    private final Random random;
    private final String run;
    private final QuakeLink x = new QuakeLink();
    private final Model model = new Model();
    private final int manner;

    private ModelTest(int seed) {
        random = new Random(seed);
        run = "run " + seed;
        manner = seed % 4;
    }

    public static void main(String[] args) {
        for (int seed = 0; seed < RUNS; seed++) {
            ModelTest test = new ModelTest(seed);
            for (int k = 0; k < CALLS; k++) {
                test.call(k);
            }
            test.compareAll();
        }
        Checks.end();
    }

    private static String answer(IntSupplier call) {
        try {
            return Integer.toString(call.getAsInt());
        } catch (RuntimeException e) {
            return "throws." + e.getClass().getSimpleName();
        }
    }

    private void compare(String call, IntSupplier mine, IntSupplier due) {
        String want = answer(due);
        Checks.due(run + ": " + call, answer(mine), want);
    }

    private int channel() {
        if (random.nextInt(60) == 0) {
            return random.nextBoolean() ? -1 : 4;
        }
        return manner < 2 ? random.nextInt(2) : random.nextInt(4);
    }

    private int slot() {
        int made = model.total(1);
        int back = random.nextInt(3) > 0 ? random.nextInt(4) : random.nextInt(70);
        return random.nextInt(80) == 0 ? made + random.nextInt(2) : made - 1 - back;
    }

    private int value() {
        int bits = random.nextInt(33);
        return bits == 0 ? 0 : random.nextInt() >> 32 - bits;
    }

    private void call(int k) {
        int dice = random.nextInt(106);
        if (dice >= 100) {
            forgeSome();
        } else if (dice < 20) {
            takeSome();
        } else if (dice < 30) {
            int channel = channel();
            compare("flush(" + channel + ")", () -> x.flush(channel), () -> model.flush(channel));
        } else if (dice < 50) {
            compare("turn()", x::turn, model::turn);
        } else if (dice < 65) {
            int slot = slot();
            compare("deliver(" + slot + ")", () -> x.deliver(slot), () -> model.deliver(slot));
        } else if (dice < 72) {
            compare("ask()", x::ask, model::ask);
        } else if (dice < 79) {
            int slot = slot();
            compare("hear(" + slot + ")", () -> x.hear(slot), () -> model.hear(slot));
        } else if (dice < 88) {
            spoilSome();
        } else if (dice < 90) {
            int slot = slot();
            compare("lose(" + slot + ")", () -> none(() -> x.lose(slot)), () -> none(() -> model.lose(slot)));
        } else if (dice < 92) {
            int percent = random.nextInt(104) - 2;
            compare("quality(" + percent + ")", () -> none(() -> x.quality(percent)),
                    () -> none(() -> model.quality(percent)));
        } else {
            look();
        }
    }

    private static int none(Runnable call) {
        call.run();
        return 0;
    }

    private void takeSome() {
        int channel = channel();
        int value = value();
        if (random.nextInt(3) == 0) {
            compare("sample(" + channel + ", " + value + ")", () -> x.sample(channel, value),
                    () -> model.sample(channel, value));
            return;
        }
        int most = manner == 0 ? 5 : manner == 1 ? 60 : manner == 2 ? 300 : 2003;
        int n = random.nextInt(most + 1) - (random.nextInt(50) == 0 ? 1 : 0);
        int step = value();
        int turn = value();
        compare("samples(" + channel + ", " + n + ", " + value + ", " + step + ", " + turn + ")",
                () -> x.samples(channel, n, value, step, turn), () -> model.samples(channel, n, value, step, turn));
    }

    /** Mostly bytes of the head, and mostly mended, so that more than the check is tried. */
    private void spoilSome() {
        int slot = slot();
        int i = random.nextInt(4) == 0 ? random.nextInt(515) - 1 : random.nextInt(26);
        int mask = random.nextInt(3) == 0 ? random.nextInt() : 1 << random.nextInt(4);
        compare("spoil(" + slot + ", " + i + ", " + mask + ")", () -> none(() -> x.spoil(slot, i, mask)),
                () -> none(() -> model.spoil(slot, i, mask)));
        if (random.nextInt(6) > 0) {
            compare("mend(" + slot + ")", () -> none(() -> x.mend(slot)), () -> none(() -> model.mend(slot)));
        }
    }

    /** A part of a slot becomes a number near an edge, or near what it was; then both sides hear the slot. */
    private void forgeSome() {
        int slot = slot();
        if (answer(() -> model.length(slot)).startsWith("throws")) {
            return;
        }
        int part = random.nextInt(PARTS.length);
        int end = Math.min(PARTS[part] + BYTES[part], model.length(slot) - 4);
        int was = 0;
        for (int i = PARTS[part]; i < end; i++) {
            was = was << 8 | model.air(slot, i);
        }
        int base = random.nextBoolean() ? was : EDGES[random.nextInt(EDGES.length)];
        int masks = was ^ base + random.nextInt(5) - 2;
        for (int k = end - 1; k >= PARTS[part]; k--) {
            int i = k;
            int mask = masks >>> 8 * (end - 1 - k);
            compare("spoil(" + slot + ", " + i + ", " + mask + ")", () -> none(() -> x.spoil(slot, i, mask)),
                    () -> none(() -> model.spoil(slot, i, mask)));
        }
        compare("mend(" + slot + ")", () -> none(() -> x.mend(slot)), () -> none(() -> model.mend(slot)));
        compare("deliver(" + slot + ")", () -> x.deliver(slot), () -> model.deliver(slot));
        compare("hear(" + slot + ")", () -> x.hear(slot), () -> model.hear(slot));
    }

    private void look() {
        int channel = channel();
        int number = random.nextInt(300) - 1;
        int slot = slot();
        int i = random.nextInt(40) - 1;
        int what = random.nextInt(9) - 1;
        compare("has(" + channel + ", " + number + ")", () -> x.has(channel, number) ? 1 : 0,
                () -> model.has(channel, number) ? 1 : 0);
        compare("at(" + channel + ", " + number + ")", () -> x.at(channel, number), () -> model.at(channel, number));
        compare("qualityAt(" + channel + ", " + number + ")", () -> x.qualityAt(channel, number),
                () -> model.qualityAt(channel, number));
        compare("gaps(" + channel + ")", () -> x.gaps(channel), () -> model.gaps(channel));
        compare("gap(" + channel + ", " + i + ", true)", () -> x.gap(channel, i, true),
                () -> model.gap(channel, i, true));
        compare("length(" + slot + ")", () -> x.length(slot), () -> model.length(slot));
        compare("air(" + slot + ", " + i + ")", () -> x.air(slot, i), () -> model.air(slot, i));
        compare("count(" + channel + ", " + what + ")", () -> x.count(channel, what),
                () -> model.count(channel, what));
        compare("total(" + what + ")", () -> x.total(what), () -> model.total(what));
    }

    /** These are more calls than an object is meant for; the program answers them all the same. */
    private void compareAll() {
        for (int c = 0; c < 4; c++) {
            int channel = c;
            for (int w = 0; w <= 6; w++) {
                int what = w;
                compare("count(" + c + ", " + w + ")", () -> x.count(channel, what), () -> model.count(channel, what));
            }
            compare("gaps(" + c + ")", () -> x.gaps(channel), () -> model.gaps(channel));
            for (int k = 0; k <= model.gaps(c); k++) {
                int i = k;
                compare("gap " + k + " from", () -> x.gap(channel, i, false), () -> model.gap(channel, i, false));
                compare("gap " + k + " to", () -> x.gap(channel, i, true), () -> model.gap(channel, i, true));
            }
            for (int k = -1; k <= 32768; k++) {
                if (x.has(c, k) != model.has(c, k) || x.at(c, k) != model.at(c, k)
                        || x.qualityAt(c, k) != model.qualityAt(c, k)) {
                    Checks.due(run + ": sample " + k + " of channel " + c + " is not the same", 1, 0);
                }
            }
        }
        for (int w = 0; w <= 4; w++) {
            int what = w;
            compare("total(" + w + ")", () -> x.total(what), () -> model.total(what));
        }
        compareSlots();
    }

    private void compareSlots() {
        for (int s = model.total(1) - 66; s <= model.total(1); s++) {
            int slot = s;
            compare("length(" + s + ")", () -> x.length(slot), () -> model.length(slot));
            if (answer(() -> model.length(slot)).startsWith("throws")) {
                continue;
            }
            for (int k = 0; k < model.length(s); k++) {
                int i = k;
                compare("air(" + s + ", " + k + ")", () -> x.air(slot, i), () -> model.air(slot, i));
            }
        }
    }
}
