/** Promises 7, 8 and 15 to 19, and what the centre says of itself (20, 21). */
public final class CentreTest {
    public static void main(String[] args) {
        deliver();
        deliverPart();
        clash();
        rejectHead();
        rejectEmpty();
        rejectNumbers();
        rejectBlocks();
        takeWideBlocks();
        takeLong();
        oldest();
        reading();
        gaps();
        gapsRefused();
        ask();
        askBehindOldest();
        Checks.end();
    }

    private static void deliver() {
        QuakeLink x = new QuakeLink();
        x.quality(40);
        Slots.sent(x, 1, 7, -3, 2147483647, -2147483648);
        Checks.due("8: new ones", x.deliver(0), 4);
        Checks.due("8: again", x.deliver(0), 0);
        int[] values = {7, -3, 2147483647, -2147483648};
        for (int k = 0; k < 4; k++) {
            Checks.due("15: has", x.has(1, k), true);
            Checks.due("16: at", x.at(1, k), values[k]);
            Checks.due("17: qualityAt", x.qualityAt(1, k), 40);
        }
        Checks.due("15: has not", x.has(1, 4), false);
        Checks.due("15: another channel", x.has(0, 0), false);
        Checks.due("20: samples", x.count(1, 5), 4);
        Checks.due("21: rejected", x.total(2), 0);
        Checks.due("21: clashed", x.total(3), 0);
    }

    private static void deliverPart() {
        QuakeLink x = new QuakeLink();
        Slots.sent(x, 0, 5, 5, 5);
        x.deliver(0);
        x.quality(10);
        Slots.sent(x, 0, 5, 5, 5);
        Slots.forgeFour(x, 1, 8, 2);
        Checks.due("8: those that it had not", x.deliver(1), 2);
        Checks.due("17: a sample keeps its quality", x.qualityAt(0, 2), 100);
        Checks.due("17: the new ones", x.qualityAt(0, 3), 10);
        Checks.due("20: samples", x.count(0, 5), 5);
        Slots.forgeFour(x, 1, 8, 32765);
        Checks.due("8: up to the last number", x.deliver(1), 3);
        Checks.due("15: the last one", x.has(0, 32767), true);
        Checks.due("16: the last one", x.at(0, 32767), 5);
        Checks.due("17: the last one", x.qualityAt(0, 32767), 10);
    }

    private static void clash() {
        QuakeLink x = new QuakeLink();
        x.deliver(Slots.sent(x, 0, 1, 2, 3));
        int slot = Slots.sent(x, 0, 3, 4, 5);
        Slots.forgeFour(x, slot, 8, 2);
        Checks.due("8: the same values", x.deliver(slot), 2);
        slot = Slots.sent(x, 0, 5, 6, 7);
        Slots.forgeFour(x, slot, 8, 3);
        Checks.due("8: other values", x.deliver(slot), -2);
        Slots.forgeFour(x, slot, 4, 1);
        Checks.due("8: other values", x.deliver(slot), -2);
        Checks.due("20: OLDEST counts as heard", x.count(0, 6), 1);
        Checks.due("8: it brings nothing", x.has(0, 5), false);
        Checks.due("16: as it was", x.at(0, 4), 5);
        Checks.due("21: clashed", x.total(3), 2);
        Checks.due("21: not rejected", x.total(2), 0);
        Slots.forge(x, slot, 0, 1);
        Checks.due("8: no clash in another channel", x.deliver(slot), 3);
        lastValueClashes();
    }

    private static void lastValueClashes() {
        QuakeLink x = new QuakeLink();
        x.deliver(Slots.sent(x, 0, 1, 2));
        int slot = Slots.sent(x, 0, 1, 2, 3);
        Slots.forgeFour(x, slot, 8, 32765);
        x.deliver(slot);
        slot = Slots.sent(x, 0, 3, 3, 2);
        Slots.forgeFour(x, slot, 8, 32763);
        Checks.due("8: its last sample is another", x.deliver(slot), -2);
        Checks.due("8: it brings nothing", x.has(0, 32763), false);
        slot = Slots.sent(x, 0, 3, 3, 1);
        Slots.forgeFour(x, slot, 8, 32763);
        Checks.due("8: its last sample is the same", x.deliver(slot), 2);
    }

    private static void rejects(QuakeLink x, String why, int slot) {
        int before = x.total(2);
        int oldest = x.count(0, 6);
        Checks.due("8: " + why, x.deliver(slot), QuakeLink.NONE);
        Checks.due("21: rejected, " + why, x.total(2), before + 1);
        Checks.due("20: OLDEST, " + why, x.count(0, 6), oldest);
        Checks.due("20: samples, " + why, x.count(0, 5), 0);
    }

    private static void rejectHead() {
        QuakeLink x = new QuakeLink();
        int slot = Slots.sent(x, 0, 1, 2);
        Slots.forge(x, slot, 0, 4);
        rejects(x, "no channel", slot);
        Slots.forge(x, slot, 0, 255);
        rejects(x, "no channel", slot);
        Slots.forge(x, slot, 0, 0, 101);
        rejects(x, "no quality", slot);
        Slots.forge(x, slot, 0, 0, 255);
        rejects(x, "no quality", slot);
        Slots.forge(x, slot, 0, 0, 0);
        Slots.forgeFour(x, slot, 8, 32766);
        Slots.forgeFour(x, slot, 4, 32768);
        rejects(x, "OLDEST behind the last sample", slot);
        Slots.forgeFour(x, slot, 4, 32767);
        Checks.due("8: OLDEST is the last sample, quality 0", x.deliver(slot), 2);
        Checks.due("17: quality 0", x.qualityAt(0, 32767), 0);
        Checks.due("20: OLDEST", x.count(0, 6), 32767);
    }

    private static void rejectEmpty() {
        QuakeLink x = new QuakeLink();
        int slot = Slots.sent(x, 0, 0);
        Slots.forge(x, slot, 3, 0);
        rejects(x, "an empty one with a quality", slot);
        Slots.forge(x, slot, 1, 0);
        Checks.due("8: empty", x.deliver(slot), 0);
        for (int i = 8; i < 20; i++) {
            Slots.forge(x, slot, i, 1);
            rejects(x, "an empty one with byte " + i, slot);
            Slots.forge(x, slot, i, 0);
        }
        Slots.forgeFour(x, slot, 4, 32769);
        rejects(x, "OLDEST above 32768", slot);
        Slots.forgeFour(x, slot, 4, 0x80000000);
        rejects(x, "OLDEST far above 32768", slot);
        Slots.forgeFour(x, slot, 4, 32768);
        Checks.due("8: empty", x.deliver(slot), 0);
        Checks.due("20: OLDEST", x.count(0, 6), 32768);
        slot = Slots.sent(x, 0, 0, 0);
        Slots.forge(x, slot, 1, 0, 0, 0);
        rejects(x, "an empty one of 25 bytes", slot);
    }

    private static void rejectNumbers() {
        QuakeLink x = new QuakeLink();
        int slot = Slots.sent(x, 0, 1, 2);
        Slots.forgeFour(x, slot, 8, 32767);
        rejects(x, "beyond the last number", slot);
        Slots.forgeFour(x, slot, 8, -1);
        rejects(x, "four bytes have no sign", slot);
        Slots.forgeFour(x, slot, 8, -2);
        rejects(x, "four bytes have no sign", slot);
        Slots.forgeFour(x, slot, 8, 0x80000000);
        rejects(x, "four bytes have no sign", slot);
        Slots.forgeFour(x, slot, 8, 32768);
        rejects(x, "beyond the last number", slot);
        Slots.forgeFour(x, slot, 8, 0);
        Slots.forgeFour(x, slot, 4, 2);
        rejects(x, "OLDEST behind the last sample", slot);
        Slots.forgeFour(x, slot, 4, 0);
        Slots.forgeFour(x, slot, 16, 3);
        rejects(x, "another last value", slot);
        Slots.forgeFour(x, slot, 12, 2);
        Checks.due("8: it leads from 2 to 3", x.deliver(slot), 2);
        QuakeLink y = new QuakeLink();
        slot = Slots.sent(y, 0, 1);
        Slots.forgeFour(y, slot, 16, 2);
        rejects(y, "one sample with two values", slot);
    }

    private static void rejectBlocks() {
        QuakeLink x = new QuakeLink();
        // Bytes 20 and 21: 0001 0011 1001 0000.
        int slot = Slots.sent(x, 0, 100, 103, 99);
        Slots.forge(x, slot, 21, 0x91);
        rejects(x, "no 0s up to the byte", slot);
        Slots.forge(x, slot, 21, 0x90);
        Slots.forge(x, slot, 3, 2);
        Slots.forgeFour(x, slot, 16, 103);
        rejects(x, "a byte behind", slot);
        Slots.forge(x, slot, 20, 0x13, 0);
        rejects(x, "a byte of 0s behind", slot);
        Slots.forge(x, slot, 3, 1);
        Slots.forgeFour(x, slot, 16, 100);
        rejects(x, "differences of one sample", slot);
        Slots.forge(x, slot, 3, 5);
        Slots.forgeFour(x, slot, 16, 112);
        rejects(x, "bytes for three differences alone", slot);
        Slots.forge(x, slot, 3, 4);
        Slots.forgeFour(x, slot, 16, 109);
        Checks.due("8: three differences", x.deliver(slot), 4);
        rejectCodes();
    }

    private static void rejectCodes() {
        QuakeLink x = new QuakeLink();
        int slot = Slots.sent(x, 0, 0, 0);
        for (int c = 10; c < 16; c++) {
            Slots.forge(x, slot, 20, c << 4);
            rejects(x, "no code " + c, slot);
        }
        for (int c = 1; c < 10; c++) {
            Slots.forge(x, slot, 20, c << 4);
            if (c > 1) {
                rejects(x, "no bytes for code " + c, slot);
            }
        }
        slot = Slots.sent(x, 0, 0);
        Slots.forge(x, slot, 3, 2);
        rejects(x, "no bytes for a code", slot);
        slot = Slots.sent(x, 0, new int[17]);
        // Two blocks of four bits, all in one byte: the second one's code.
        Slots.forge(x, slot, 20, 0x0a);
        rejects(x, "no second code 10", slot);
        Slots.forge(x, slot, 20, 0);
        Checks.due("8: two blocks", x.deliver(slot), 17);
    }

    private static void takeWideBlocks() {
        int[] widths = {0, 4, 6, 8, 10, 12, 16, 20, 24, 32};
        for (int c = 1; c < 10; c++) {
            QuakeLink x = new QuakeLink();
            // A sender of just the bytes for one difference of this width; then -1, 1 or 0 in that width.
            int slot = Slots.sent(x, 0, 0, (int) (1L << widths[c] - 1) - 1);
            for (int value = -1; value <= 1; value++) {
                long bits = (long) c << 36 | (value & (1L << widths[c]) - 1) << 36 - widths[c];
                for (int i = 20; i < x.length(slot) - 4; i++) {
                    Slots.forge(x, slot, i, (int) (bits >> 32 - 8 * (i - 20)) & 255);
                }
                Slots.forgeFour(x, slot, 8, 2 * (value + 1));
                Slots.forgeFour(x, slot, 16, value);
                Checks.due("8: " + value + " with code " + c, x.deliver(slot), 2);
                Checks.due("16: " + value + " with code " + c, x.at(0, 2 * (value + 1) + 1), value);
            }
        }
    }

    private static void takeLong() {
        QuakeLink x = new QuakeLink();
        x.samples(0, 1000, 5, 0, 0);
        x.turn();
        // 67 blocks of four bits and four 0s, which can be a block too.
        Slots.forge(x, 0, 2, 1022 >> 8, 1022 & 255);
        rejects(x, "no block for it", 0);
        Slots.forge(x, 0, 2, 1021 >> 8, 1021 & 255);
        Checks.due("8: more than a packet has", x.deliver(0), 1021);
        Checks.due("16: its last one", x.at(0, 1020), 5);
        Checks.due("20: samples", x.count(0, 5), 1021);
        longest();
    }

    private static void longest() {
        QuakeLink x = new QuakeLink();
        x.samples(0, 122, 0, 0, 1 << 30);
        x.turn();
        // Its eight blocks have the code 9 and the differences 0, in the first one alone, and 1 << 30.
        String sent = ("9" + "00000000" + "40000000".repeat(14)) + ("9" + "40000000".repeat(15)).repeat(7);
        for (int i = 0; i < 484; i++) {
            int mask = Integer.parseInt(sent.substring(2 * i, 2 * i + 2), 16);
            if (mask != 0) {
                x.spoil(0, 20 + i, mask);
            }
        }
        int n = 484 * 30 + 1;
        Slots.forge(x, 0, 2, n >> 8, n & 255);
        Slots.forgeFour(x, 0, 16, 0);
        Checks.due("8: 968 blocks without bits", x.deliver(0), n);
        Slots.forgeFour(x, 0, 8, 32768 - n);
        Checks.due("8: the last ones", x.deliver(0), n);
    }

    private static void oldest() {
        QuakeLink x = new QuakeLink();
        int slot = Slots.sent(x, 3, 1, 2, 3);
        Slots.forgeFour(x, slot, 4, 2);
        x.deliver(slot);
        Checks.due("20: OLDEST", x.count(3, 6), 2);
        Slots.forgeFour(x, slot, 4, 1);
        Checks.due("8: heard", x.deliver(slot), 0);
        Checks.due("20: it never falls", x.count(3, 6), 2);
        Checks.due("20: of the channel alone", x.count(2, 6), 0);
        Checks.due("20: the station's own", x.count(3, 1), 0);
    }

    private static void reading() {
        QuakeLink x = new QuakeLink();
        x.deliver(Slots.sent(x, 0, 9));
        int[] numbers = {-1, 1, 32767, 32768, Integer.MAX_VALUE, Integer.MIN_VALUE};
        for (int number : numbers) {
            Checks.due("15: has " + number, x.has(0, number), false);
            Checks.due("16: at " + number, x.at(0, number), 0);
            Checks.due("17: qualityAt " + number, x.qualityAt(0, number), QuakeLink.NONE);
        }
        int[] channels = {-1, 4, Integer.MAX_VALUE, Integer.MIN_VALUE};
        for (int channel : channels) {
            Checks.noSuch("15: channel " + channel, () -> x.has(channel, 0));
            Checks.noSuch("16: channel " + channel, () -> x.at(channel, 0));
            Checks.noSuch("17: channel " + channel, () -> x.qualityAt(channel, 0));
            Checks.noSuch("18: channel " + channel, () -> x.gaps(channel));
            Checks.noSuch("19: channel " + channel, () -> x.gap(channel, 0, true));
        }
    }

    /** A sample of value 0 comes to the centre under each number. */
    private static QuakeLink having(int channel, int... numbers) {
        QuakeLink x = new QuakeLink();
        int slot = Slots.sent(x, channel, 0);
        for (int number : numbers) {
            Slots.forgeFour(x, slot, 8, number);
            Checks.due("8: number " + number, x.deliver(slot), 1);
        }
        return x;
    }

    private static void gaps() {
        QuakeLink x = having(2, 5);
        Checks.due("18: none before the first one", x.gaps(2), 0);
        x = having(2, 5, 9, 7, 8, 40, 32767);
        Checks.due("18: gaps", x.gaps(2), 3);
        int[] ends = {6, 6, 10, 39, 41, 32766};
        for (int i = 0; i < 3; i++) {
            Checks.due("19: first of " + i, x.gap(2, i, false), ends[2 * i]);
            Checks.due("19: last of " + i, x.gap(2, i, true), ends[2 * i + 1]);
        }
        Checks.due("18: another channel", x.gaps(1), 0);
        x = having(0, 0, 31, 32, 63, 65, 96, 32766);
        int[] words = {1, 30, 33, 62, 64, 64, 66, 95, 97, 32765};
        Checks.due("18: gaps", x.gaps(0), 5);
        for (int i = 0; i < 5; i++) {
            Checks.due("19: first of " + i, x.gap(0, i, false), words[2 * i]);
            Checks.due("19: last of " + i, x.gap(0, i, true), words[2 * i + 1]);
        }
        x = having(0, 3, 2, 1);
        Checks.due("18: none", x.gaps(0), 0);
    }

    private static void gapsRefused() {
        QuakeLink x = having(0, 1, 3);
        Checks.due("19: the gap", x.gap(0, 0, true), 2);
        int[] none = {-1, 1, 2, Integer.MAX_VALUE, Integer.MIN_VALUE};
        for (int i : none) {
            Checks.noSuch("19: gap " + i, () -> x.gap(0, i, false));
            Checks.noSuch("19: gap " + i, () -> x.gap(0, i, true));
        }
        Checks.noSuch("19: no gap in a channel without samples", () -> x.gap(1, 0, false));
    }

    private static void ask() {
        QuakeLink x = having(3, 10, 20);
        int slot = Slots.sent(x, 1, 0);
        Slots.forgeFour(x, slot, 8, 11);
        x.deliver(slot);
        Checks.due("7: slot", x.ask(), 2);
        Checks.due("7: the gap", Slots.hex(x, 2), Slots.checked("03000000" + "0000000b" + "00000013"));
        Slots.forgeFour(x, slot, 8, 32767);
        x.deliver(slot);
        Checks.due("7: the least number", x.air(x.ask(), 0), 3);
        Slots.forgeFour(x, slot, 8, 10);
        x.deliver(slot);
        Checks.due("7: the least number", x.air(x.ask(), 0), 3);
        Slots.forge(x, slot, 0, 2);
        x.deliver(slot);
        Slots.forgeFour(x, slot, 8, 12);
        x.deliver(slot);
        Checks.due("7: then the least channel", Slots.hex(x, x.ask()),
                Slots.checked("02000000" + "0000000b" + "0000000b"));
        Checks.due("7: the same again", Slots.hex(x, x.ask()), Slots.checked("02000000" + "0000000b" + "0000000b"));
        Checks.due("21: slots", x.total(1), 7);
        QuakeLink y = having(0, 4, 5);
        Checks.due("7: no gap", y.ask(), QuakeLink.NONE);
        Checks.due("21: slots", y.total(1), 1);
    }

    private static void askBehindOldest() {
        QuakeLink x = having(0, 1, 5, 9);
        int slot = x.total(1) - 1;
        asks(x, slot, 0, 2, 4);
        asks(x, slot, 2, 2, 4);
        asks(x, slot, 4, 4, 4);
        asks(x, slot, 5, 6, 8);
        asks(x, slot, 7, 7, 8);
        Checks.due("18: the gaps stay", x.gaps(0), 2);
        Checks.due("19: the gaps stay", x.gap(0, 0, false), 2);
        Slots.forgeFour(x, slot, 4, 9);
        x.deliver(slot);
        Checks.due("7: nothing to be asked for", x.ask(), QuakeLink.NONE);
        Checks.due("18: the gaps stay", x.gaps(0), 2);
    }

    private static void asks(QuakeLink x, int slot, int oldest, int from, int to) {
        Slots.forgeFour(x, slot, 4, oldest);
        Checks.due("8: OLDEST", x.deliver(slot), 0);
        Checks.due("7: with OLDEST " + oldest, Slots.hex(x, x.ask()),
                Slots.checked(String.format("00000000%08x%08x", from, to)));
    }
}
