/** The boundary cases of the document's part 1, the station: a test of its own for each sentence that names one. */
public final class StationEdgesTest {
    private static final int MIN = Integer.MIN_VALUE;
    private static final int MAX = Integer.MAX_VALUE;
    private static final int[] WIDTHS = {0, 4, 6, 8, 10, 12, 16, 20, 24, 32};

    public static void main(String[] args) {
        newObjectHasQuality100();
        channelsAre0To3();
        numbersBeginAt0InEachChannel();
        sampleAtMost32768();
        samplesAtMost32768();
        samplesTake1To2000();
        samplesWrap();
        closedWith1000();
        closedWith1000AcrossCalls();
        open512Bytes();
        closedBeyond512Bytes();
        closedByAWiderBlock();
        closedByTheNextBlocksCode();
        closedWith1000And512Bytes();
        closedBefore1000By512Bytes();
        flushIfItHasOne();
        ringOf32();
        oldestBeforeAPacketWasClosed();
        qualityIs0To100();
        qualityWhenItWasClosed();
        heldInTwoBytes();
        numberInFourBytes();
        oldestInFourBytes();
        blocksOf15();
        eachWidthInABlock();
        leastCodeOfEachBlock();
        differencesWrap();
        zerosUpToTheNextByte();
        zerosInARowUsedAgain();
        countWhat0To6();
        totalWhat0To4();
        Checks.end();
    }

    /** "No samples, an empty air; the quality is 100." */
    private static void newObjectHasQuality100() {
        QuakeLink x = new QuakeLink();
        for (int channel = 0; channel < 4; channel++) {
            for (int what = 0; what <= 6; what++) {
                Checks.due("1: count(" + channel + ", " + what + ")", x.count(channel, what), 0);
            }
        }
        for (int what = 0; what <= 4; what++) {
            Checks.due("1: total(" + what + ")", x.total(what), 0);
        }
        Checks.noSuch("1: an empty air", () -> x.length(0));
        Checks.due("1: quality", x.air(Slots.sent(x, 0, 5), 1), 100);
    }

    /** "CHANNELS are 0 .. 3." */
    private static void channelsAre0To3() {
        QuakeLink x = new QuakeLink();
        for (int channel : new int[] {MIN, -1, 4, 5, MAX}) {
            Checks.noSuch("2: channel " + channel, () -> x.sample(channel, 0));
            Checks.noSuch("3: channel " + channel, () -> x.samples(channel, 1, 0, 0, 0));
            Checks.noSuch("5: channel " + channel, () -> x.flush(channel));
            Checks.noSuch("20: channel " + channel, () -> x.count(channel, 0));
        }
        for (int channel = 0; channel < 4; channel++) {
            Checks.due("2: channel " + channel, x.sample(channel, 0), 0);
            Checks.due("3: channel " + channel, x.samples(channel, 1, 0, 0, 0), 1);
            Checks.due("5: channel " + channel, x.flush(channel), 2);
            Checks.due("20: channel " + channel, x.count(channel, 0), 2);
        }
    }

    /** "The samples that a channel takes have NUMBERS 0, 1, .." */
    private static void numbersBeginAt0InEachChannel() {
        QuakeLink x = new QuakeLink();
        Checks.due("2: first", x.sample(0, MIN), 0);
        Checks.due("2: second", x.sample(0, MAX), 1);
        Checks.due("3: third", x.samples(0, 3, 0, 0, 0), 2);
        Checks.due("2: behind them", x.sample(0, 0), 5);
        x.flush(0);
        Checks.due("2: flush begins no new row", x.sample(0, 0), 6);
        Checks.due("2: another channel", x.sample(3, 0), 0);
        Checks.due("3: another channel", x.samples(2, 2, 0, 0, 0), 0);
    }

    private static QuakeLink with(int channel, int n) {
        QuakeLink x = new QuakeLink();
        for (int left = n; left > 0; left -= 2000) {
            x.samples(channel, Math.min(left, 2000), 0, 0, 0);
        }
        return x;
    }

    /** "at most 32768 of them"; "IllegalStateException: there were 32768." */
    private static void sampleAtMost32768() {
        QuakeLink x = with(0, 32766);
        Checks.due("2: the last but one", x.sample(0, 1), 32766);
        Checks.due("2: the last", x.sample(0, 1), 32767);
        Checks.noState("2: one more", () -> x.sample(0, 1));
        Checks.due("2: taken", x.count(0, 0), 32768);
        x.flush(0);
        Checks.noState("2: flush makes no room", () -> x.sample(0, 1));
        Checks.due("2: another channel has room", x.sample(1, 1), 0);
    }

    /** "IllegalStateException: there would be more than 32768." */
    private static void samplesAtMost32768() {
        QuakeLink x = with(2, 31000);
        Checks.noState("3: 2000 more", () -> x.samples(2, 2000, 0, 0, 0));
        Checks.noState("3: one too many", () -> x.samples(2, 1769, 0, 0, 0));
        Checks.due("3: none was taken", x.count(2, 0), 31000);
        Checks.due("3: one less", x.samples(2, 1767, 0, 0, 0), 31000);
        Checks.noState("3: two for one", () -> x.samples(2, 2, 0, 0, 0));
        Checks.due("3: just the last", x.samples(2, 1, 0, 0, 0), 32767);
        Checks.noState("3: one more", () -> x.samples(2, 1, 0, 0, 0));
        QuakeLink y = with(2, 31000);
        Checks.due("3: just as many", y.samples(2, 1768, 0, 0, 0), 31000);
        Checks.due("3: taken", y.count(2, 0), 32768);
        Checks.noState("2: one more", () -> y.sample(2, 0));
    }

    /** "IllegalArgumentException: n is not 1 .. 2000" */
    private static void samplesTake1To2000() {
        QuakeLink x = new QuakeLink();
        for (int n : new int[] {MIN, -1, 0, 2001, MAX}) {
            Checks.noArgument("3: n " + n, () -> x.samples(0, n, 1, 1, 1));
        }
        Checks.due("3: none was taken", x.count(0, 0), 0);
        Checks.due("3: n 1", x.samples(0, 1, 1, 1, 1), 0);
        Checks.due("3: n 2", x.samples(0, 2, 1, 1, 1), 1);
        Checks.due("3: n 1999", x.samples(0, 1999, 1, 1, 1), 3);
        Checks.due("3: n 2000", x.samples(0, 2000, 1, 1, 1), 2002);
        Checks.due("3: taken", x.count(0, 0), 4002);
    }

    /** "value, value and step, and so on, step growing by turn each time (all wrap)" */
    private static void samplesWrap() {
        QuakeLink x = new QuakeLink();
        x.samples(0, 3, MAX, 1, 0);
        x.samples(0, 3, MIN, -1, 0);
        x.samples(0, 3, 0, MAX, 1);
        x.samples(0, 3, 0, MIN, -1);
        x.flush(0);
        x.deliver(x.turn());
        int[] due = {MAX, MIN, MIN + 1, MIN, MAX, MAX - 1, 0, MAX, -1, 0, MIN, -1};
        for (int k = 0; k < due.length; k++) {
            Checks.due("3: value " + k, x.at(0, k), due[k]);
        }
    }

    private static void holds(String what, QuakeLink x, int closed, int open) {
        Checks.due(what + ": closed packets", x.count(0, 2), closed);
        Checks.due(what + ": open samples", x.count(0, 3), open);
    }

    /** "it is CLOSED when it has 1000" */
    private static void closedWith1000() {
        QuakeLink x = with(0, 998);
        x.sample(0, 0);
        holds("2: 999", x, 0, 999);
        Checks.due("21: none waits", x.total(0), 0);
        x.sample(0, 0);
        holds("2: 1000", x, 1, 0);
        Checks.due("21: it waits", x.total(0), 1);
        x.sample(0, 0);
        holds("2: 1001", x, 1, 1);
    }

    private static void closedWith1000AcrossCalls() {
        holds("3: 999", with(0, 999), 0, 999);
        holds("3: 1000", with(0, 1000), 1, 0);
        holds("3: 1001", with(0, 1001), 1, 1);
        holds("3: 1999", with(0, 1999), 1, 999);
        holds("3: 2000", with(0, 2000), 2, 0);
        QuakeLink x = with(0, 400);
        x.flush(0);
        x.samples(0, 999, 0, 0, 0);
        holds("3: 999 behind a flush", x, 1, 999);
        x.samples(0, 2, 0, 0, 0);
        holds("3: two more", x, 2, 1);
    }

    /** Eight blocks of 32 bits a difference, 121 samples; what is left of 512 bytes are eight half bytes. */
    private static final class Wide {
        final QuakeLink x = new QuakeLink();
        private int value = 119 * 60 << 30;
        private int step = 119 << 30;

        Wide() {
            x.samples(0, 121, 0, 0, 1 << 30);
        }

        void take(int difference) {
            step += difference;
            value += step;
            x.sample(0, value);
        }
    }

    /** "when it would be longer than 512 bytes": 511 and 512 are not. */
    private static void open512Bytes() {
        Wide wide = new Wide();
        wide.take(1 << 19);
        wide.x.flush(0);
        Checks.due("2: a code and 24 bits", wide.x.length(wide.x.turn()), 512);
        wide = new Wide();
        wide.take((1 << 19) - 1);
        wide.x.flush(0);
        Checks.due("2: a code and 20 bits", wide.x.length(wide.x.turn()), 511);
        wide = new Wide();
        wide.take((1 << 23) - 1);
        holds("2: the greatest of 24 bits", wide.x, 0, 122);
        wide = new Wide();
        for (int k = 0; k < 7; k++) {
            wide.take(-8);
        }
        holds("2: a code and seven of 4 bits", wide.x, 0, 128);
        Checks.due("5: flush", wide.x.flush(0), 128);
        int slot = wide.x.turn();
        Checks.due("2: 512 bytes without a 0 behind", wide.x.length(slot), 512);
        Checks.due("8: heard", wide.x.deliver(slot), 128);
    }

    /** "longer than 512 bytes with the next sample (which begins the next one then)": 513 are. */
    private static void closedBeyond512Bytes() {
        Wide wide = new Wide();
        wide.take(1 << 23);
        holds("2: a code and 32 bits", wide.x, 1, 1);
        int slot = wide.x.turn();
        Checks.due("2: without the next sample", wide.x.length(slot), 508);
        Checks.due("2: its samples", wide.x.deliver(slot), 121);
        wide.x.flush(0);
        slot = wide.x.turn();
        Checks.due("2: the next one begins with it", Slots.numberOf(wide.x, slot), 121);
        Checks.due("2: and has it alone", wide.x.deliver(slot), 1);
        Checks.due("2: its value", wide.x.at(0, 121), wide.value);
        wide = new Wide();
        for (int k = 0; k < 7; k++) {
            wide.take(7);
        }
        holds("2: a code and seven of 4 bits", wide.x, 0, 128);
        wide.take(7);
        holds("2: a code and eight of 4 bits", wide.x, 1, 1);
    }

    /** The block as it would be with the next sample counts, not the sample alone. */
    private static void closedByAWiderBlock() {
        Wide wide = new Wide();
        for (int k = 0; k < 3; k++) {
            wide.take(1);
        }
        wide.take(8);
        holds("2: four of 6 bits", wide.x, 0, 125);
        wide = new Wide();
        for (int k = 0; k < 4; k++) {
            wide.take(1);
        }
        wide.take(8);
        holds("2: five of 6 bits", wide.x, 1, 1);
        wide = new Wide();
        wide.take(1 << 22);
        wide.take(0);
        holds("2: a 0 in a block of 24 bits", wide.x, 1, 1);
    }

    /** 61 blocks of fifteen differences of four bits are just 512 bytes: even a code alone is too long behind. */
    private static void closedByTheNextBlocksCode() {
        QuakeLink x = new QuakeLink();
        x.samples(0, 916, 0, 7, 7);
        holds("2: 61 full blocks", x, 0, 916);
        x.sample(0, 7 * 916 * 915 / 2 + 7 * 915);
        holds("2: a difference 0 of no width", x, 1, 1);
        int slot = x.turn();
        Checks.due("2: 512 bytes", x.length(slot), 512);
        Checks.due("8: heard", x.deliver(slot), 916);
    }

    /** 60 blocks of 4 bits, six of none, and eight differences of 4 bits: 999 samples. */
    private static QuakeLink with999() {
        QuakeLink x = new QuakeLink();
        x.samples(0, 901, 0, 7, 7);
        int value = 7 * 900 * 901 / 2;
        x.samples(0, 90, value + 6300, 6300, 0);
        value += 90 * 6300;
        x.samples(0, 8, value + 6307, 6314, 7);
        holds("2: 999", x, 0, 999);
        return x;
    }

    private static final int VALUE_999 = 7 * 900 * 901 / 2 + 98 * 6300 + 7 * 36;
    private static final int STEP_999 = 6300 + 56;

    private static void closedWith1000And512Bytes() {
        QuakeLink x = with999();
        x.sample(0, VALUE_999 + STEP_999 + 7);
        holds("2: 1000 in 512 bytes", x, 1, 0);
        int slot = x.turn();
        Checks.due("2: 512 bytes", x.length(slot), 512);
        Checks.due("8: heard", x.deliver(slot), 1000);
        Checks.due("16: the last one", x.at(0, 999), VALUE_999 + STEP_999 + 7);
    }

    private static void closedBefore1000By512Bytes() {
        QuakeLink x = with999();
        x.sample(0, VALUE_999 + STEP_999 + 8);
        holds("2: the 1000th has no room", x, 1, 1);
        int slot = x.turn();
        Checks.due("2: 512 bytes", x.length(slot), 512);
        Checks.due("8: heard", x.deliver(slot), 999);
        Checks.due("16: the last one", x.at(0, 998), VALUE_999);
    }

    /** "and by flush(), if it has one"; "how many samples it has; 0 if there was none" */
    private static void flushIfItHasOne() {
        QuakeLink x = new QuakeLink();
        Checks.due("5: none ever", x.flush(0), 0);
        holds("5: no packet", x, 0, 0);
        x.sample(0, 1);
        Checks.due("5: one", x.flush(0), 1);
        holds("5: one packet", x, 1, 0);
        Checks.due("5: none since", x.flush(0), 0);
        holds("5: no second one", x, 1, 0);
        Checks.due("21: one waits", x.total(0), 1);
        x.samples(0, 999, 0, 0, 0);
        Checks.due("5: 999", x.flush(0), 999);
        x.samples(0, 1000, 0, 0, 0);
        Checks.due("5: closed by its samples", x.flush(0), 0);
        x.samples(0, 1001, 0, 0, 0);
        Checks.due("5: the next one", x.flush(0), 1);
        holds("5: packets", x, 5, 0);
        Wide wide = new Wide();
        Checks.due("5: 121", wide.x.flush(0), 121);
        wide = new Wide();
        wide.take(MAX);
        Checks.due("5: closed by its bytes", wide.x.flush(0), 1);
    }

    /** "THE RING of a channel has its latest 32 closed packets" */
    private static void ringOf32() {
        QuakeLink x = new QuakeLink();
        for (int k = 1; k <= 34; k++) {
            x.samples(0, 3, k, 0, 0);
            Checks.due("20: ring while " + k + " is open", x.count(0, 2), Math.min(k - 1, 32));
            x.flush(0);
            Checks.due("20: ring of " + k, x.count(0, 2), Math.min(k, 32));
            Checks.due("20: OLDEST of " + k, x.count(0, 1), k <= 32 ? 0 : 3 * (k - 32));
            Checks.due("21: packets of " + k + " that wait", x.total(0), Math.min(k, 32));
        }
        x.sample(1, 0);
        x.flush(1);
        Checks.due("20: each channel has its own", x.count(1, 2), 1);
        Checks.due("20: OLDEST of its own", x.count(1, 1), 0);
        Checks.due("20: as it was", x.count(0, 1), 6);
    }

    /** "OLDEST is the number of the first sample in it (0 before a packet was closed)" */
    private static void oldestBeforeAPacketWasClosed() {
        QuakeLink x = new QuakeLink();
        Checks.due("20: without samples", x.count(1, 1), 0);
        x.samples(1, 999, 0, 0, 0);
        Checks.due("20: with an open packet", x.count(1, 1), 0);
        x.sample(1, 0);
        Checks.due("20: with a closed packet", x.count(1, 1), 0);
        for (int k = 0; k < 16; k++) {
            x.samples(1, 2000 - (k == 15 ? 232 : 0), 0, 0, 0);
        }
        Checks.due("20: 32 are closed", x.count(1, 2), 32);
        Checks.due("20: 32 and an open one", x.count(1, 1), 0);
        x.flush(1);
        Checks.due("20: 33 were closed", x.count(1, 1), 1000);
    }

    /** "IllegalArgumentException: it is not 0 .. 100." */
    private static void qualityIs0To100() {
        QuakeLink x = new QuakeLink();
        for (int percent : new int[] {0, 1, 99, 100}) {
            x.quality(percent);
            Checks.due("4: " + percent, x.air(Slots.sent(x, 0, 1), 1), percent);
        }
        x.quality(55);
        for (int percent : new int[] {MIN, -1, 101, 256, MAX}) {
            Checks.noArgument("4: " + percent, () -> x.quality(percent));
            Checks.due("4: as it was", x.air(Slots.sent(x, 0, 1), 1), 55);
        }
    }

    /** "the QUALITY that was set when it was closed" */
    private static void qualityWhenItWasClosed() {
        QuakeLink x = new QuakeLink();
        x.quality(10);
        x.samples(0, 999, 0, 0, 0);
        x.quality(20);
        x.sample(0, 0);
        x.quality(30);
        x.sample(1, 0);
        x.quality(40);
        x.flush(1);
        x.quality(50);
        Checks.due("4: when it had 1000", x.air(x.turn(), 1), 20);
        Checks.due("4: when it was flushed", x.air(x.turn(), 1), 40);
        Wide wide = new Wide();
        wide.x.quality(60);
        wide.take(MAX);
        wide.x.quality(70);
        Checks.due("4: when its bytes were too many", wide.x.air(wide.x.turn(), 1), 60);
        wide.x.flush(0);
        Checks.due("4: the next one later", wide.x.air(wide.x.turn(), 1), 70);
    }

    /** "n in two" */
    private static void heldInTwoBytes() {
        for (int n : new int[] {1, 255, 256, 257, 999, 1000}) {
            QuakeLink x = with(0, n);
            x.flush(0);
            int slot = x.turn();
            Checks.due("6: n " + n, x.air(slot, 2) << 8 | x.air(slot, 3), n);
            Checks.due("8: heard " + n, x.deliver(slot), n);
        }
    }

    /** "the number of x(0) in four" */
    private static void numberInFourBytes() {
        for (int number : new int[] {0, 1, 255, 256, 32766, 32767}) {
            QuakeLink x = with(0, number);
            x.flush(0);
            int slots = Math.min(x.total(0), 32);
            for (int k = 0; k < slots; k++) {
                x.turn();
            }
            int slot = Slots.sent(x, 0, -1);
            Checks.due("6: number " + number, Slots.numberOf(x, slot), number);
            Checks.due("8: heard " + number, x.deliver(slot), 1);
            Checks.due("16: value of " + number, x.at(0, number), -1);
        }
    }

    /** "OLDEST, as it is when it is sent, in four" */
    private static void oldestInFourBytes() {
        QuakeLink x = with(0, 31000);
        x.turn();
        Checks.due("6: OLDEST with 31 packets", x.air(0, 6) << 8 | x.air(0, 7), 0);
        x.sample(0, 1);
        x.flush(0);
        x.turn();
        Checks.due("6: OLDEST with 32 packets", x.air(1, 6) << 8 | x.air(1, 7), 0);
        x.sample(0, 1);
        x.flush(0);
        int slot = x.turn();
        Checks.due("6: OLDEST with 33 packets", x.air(slot, 6) << 8 | x.air(slot, 7), 1000);
        Checks.due("6: its highest bytes", x.air(slot, 4) + x.air(slot, 5), 0);
        Checks.due("6: the first that waits", Slots.numberOf(x, slot), 2000);
    }

    /** "from d(1) on in BLOCKS of 15, the last one of what is left" */
    private static void blocksOf15() {
        for (int n : new int[] {1, 2, 3, 15, 16, 17, 18, 30, 31, 32, 46}) {
            QuakeLink x = new QuakeLink();
            x.samples(0, n, 0, 7, 7);
            x.flush(0);
            StringBuilder differences = new StringBuilder();
            for (int left = n - 1; left > 0; left -= 15) {
                differences.append("1").append("7".repeat(Math.min(left, 15)));
            }
            differences.append(differences.length() % 2 == 0 ? "" : "0");
            Checks.due("6: blocks of " + n, Slots.hex(x, x.turn()),
                    Slots.checked(Slots.head(n, 0, 0, 0, 7 * n * (n - 1) / 2) + differences));
        }
    }

    /** "each difference in w bits, with its sign, w being the c-th, from 0, of 0, 4, .., 32" */
    private static void eachWidthInABlock() {
        int[] places = {1, 8, 15};
        for (int place : places) {
            inABlock(0, place, 0);
            inABlock(1, place, 1);
            inABlock(-1, place, 1);
            for (int c = 1; c < 10; c++) {
                int low = (int) -(1L << WIDTHS[c] - 1);
                inABlock(low, place, c);
                inABlock(~low, place, c);
                if (c < 9) {
                    inABlock(low - 1, place, c + 1);
                    inABlock(~low + 1, place, c + 1);
                }
            }
        }
    }

    /** A block of fifteen differences, all 0 but for the one at the place. */
    private static void inABlock(int difference, int place, int code) {
        QuakeLink x = new QuakeLink();
        int[] values = new int[16];
        for (int k = 1; k <= 15; k++) {
            values[k] = k < place ? 0 : difference * (k - place + 1);
        }
        int slot = Slots.sent(x, 0, values);
        String name = difference + " at " + place;
        Checks.due("6: code of " + name, x.air(slot, 20) >> 4, code);
        Checks.due("6: bytes of " + name, x.length(slot), 24 + (4 + 15 * WIDTHS[code] + 7) / 8);
        Checks.due("8: heard " + name, x.deliver(slot), 16);
        for (int k = 0; k < 16; k++) {
            Checks.due("16: value " + k + " of " + name, x.at(0, k), values[k]);
        }
    }

    /** "the least c is written with which all of the block can be": of this block, not of the ones before. */
    private static void leastCodeOfEachBlock() {
        QuakeLink x = new QuakeLink();
        x.samples(0, 16, 0, 0, 0);
        x.sample(0, 7);
        x.samples(0, 14, 14, 7, 0);
        x.samples(0, 15, 112, 7, 0);
        x.flush(0);
        // The first block has 0s alone, the second one a 7 and 0s, the third one 0s.
        Checks.due("6: codes 0, 1, 0", Slots.hex(x, x.turn()),
                Slots.checked(Slots.head(46, 0, 0, 0, 210) + "01" + "7" + "0".repeat(14) + "0"));
        // The first block needs six bits for its first difference, 8, alone; the second one eight bits for its -33.
        x.samples(0, 16, 0, 8, 0);
        x.sample(0, 8 * 15 + 8 - 33);
        x.flush(0);
        Checks.due("6: codes 2, 3", Slots.hex(x, x.turn()), Slots.checked(Slots.head(17, 0, 46, 0, 95)
                + Slots.bits("0010 001000" + " 000000".repeat(14) + " 0011 11011111")));
    }

    /** "(all of them wrap)" */
    private static void differencesWrap() {
        QuakeLink x = new QuakeLink();
        // d(1) = MAX - MIN = -1; d(2) = (MIN - MAX) - (MAX - MIN) = 1 - -1 = 2.
        Checks.due("6: from the least to the greatest", Slots.hex(x, Slots.sent(x, 0, MIN, MAX, MIN)),
                Slots.checked(Slots.head(3, 0, 0, MIN, MIN) + "1f20"));
        // d(1) = MIN, d(2) = MIN - MIN = 0: the second difference wraps where the first one does not.
        Checks.due("6: halfway round, twice", Slots.hex(x, Slots.sent(x, 0, 0, MIN, 0)),
                Slots.checked(Slots.head(3, 0, 3, 0, 0) + "9" + "80000000" + "00000000" + "0"));
        // d(1) = MAX, d(2) = -MAX - MAX = 2.
        Checks.due("6: there and back", Slots.hex(x, Slots.sent(x, 0, 0, MAX, 0)),
                Slots.checked(Slots.head(3, 0, 6, 0, 0) + "9" + "7fffffff" + "00000002" + "0"));
        for (int slot = 0; slot < 3; slot++) {
            Checks.due("8: heard", x.deliver(slot), 3);
        }
        int[] due = {MIN, MAX, MIN, 0, MIN, 0, 0, MAX, 0};
        for (int k = 0; k < due.length; k++) {
            Checks.due("16: value " + k, x.at(0, k), due[k]);
        }
    }

    /** "highest bits first; 0s up to the next byte": of 0, 2, 4 and 6 bits. */
    private static void zerosUpToTheNextByte() {
        QuakeLink x = new QuakeLink();
        // 0010 100000
        Checks.due("6: six 0s", Slots.hex(x, Slots.sent(x, 0, 0, -32)),
                Slots.checked(Slots.head(2, 0, 0, 0, -32) + "2800"));
        // 0010 100000 111111
        Checks.due("6: no 0s", Slots.hex(x, Slots.sent(x, 0, 0, -32, -65)),
                Slots.checked(Slots.head(3, 0, 2, 0, -65) + "283f"));
        // 0010 100000 111111 111111
        Checks.due("6: two 0s", Slots.hex(x, Slots.sent(x, 0, 0, -32, -65, -99)),
                Slots.checked(Slots.head(4, 0, 5, 0, -99) + "283ffc"));
        // 0010 100000 111111 111111 111111
        Checks.due("6: four 0s", Slots.hex(x, Slots.sent(x, 0, 0, -32, -65, -99, -134)),
                Slots.checked(Slots.head(5, 0, 9, 0, -134) + "283ffff0"));
    }

    /** The 0s are 0s also where 33 packets before left 1s. */
    private static void zerosInARowUsedAgain() {
        QuakeLink x = new QuakeLink();
        for (int k = 0; k < 33; k++) {
            x.samples(0, 16, 0, -1, -1);
            x.flush(0);
        }
        x.samples(0, 2, 0, -32, 0);
        x.flush(0);
        for (int k = 0; k < 31; k++) {
            x.turn();
        }
        Checks.due("6: six 0s", Slots.hex(x, x.turn()), Slots.checked(Slots.head(2, 32, 528, 0, -32) + "2800"));
        Checks.due("6: that was the last one", x.turn(), QuakeLink.NONE);
    }

    /** "IllegalArgumentException: what is none of these." */
    private static void countWhat0To6() {
        QuakeLink x = new QuakeLink();
        x.samples(0, 1002, 0, 0, 0);
        for (int what : new int[] {MIN, -1, 7, 8, MAX}) {
            Checks.noArgument("20: what " + what, () -> x.count(0, what));
        }
        int[] due = {1002, 0, 1, 2, 0, 0, 0};
        for (int what = 0; what <= 6; what++) {
            Checks.due("20: what " + what, x.count(0, what), due[what]);
        }
    }

    private static void totalWhat0To4() {
        QuakeLink x = new QuakeLink();
        x.samples(0, 2000, 0, 0, 0);
        x.hear(x.turn());
        for (int what : new int[] {MIN, -1, 5, 6, MAX}) {
            Checks.noArgument("21: what " + what, () -> x.total(what));
        }
        int[] due = {1, 1, 0, 0, 1};
        for (int what = 0; what <= 4; what++) {
            Checks.due("21: what " + what, x.total(what), due[what]);
        }
    }
}
