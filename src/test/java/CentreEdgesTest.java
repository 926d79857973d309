/** The boundary cases of the document's part 3, the centre: a test of its own for each sentence that names one. */
public final class CentreEdgesTest {
    private static final int MIN = Integer.MIN_VALUE;
    private static final int MAX = Integer.MAX_VALUE;
    private static final int[] WIDTHS = {0, 4, 6, 8, 10, 12, 16, 20, 24, 32};

    public static void main(String[] args) {
        channelsAre0To3();
        rejectedIfNoMessage();
        rejectedIfAnyBitIsWrong();
        saysAChannel();
        saysAQuality();
        oldestNotAbove32768();
        emptyHasJust24Bytes();
        emptyHasQuality0();
        emptyHasNumberAndValues0();
        numberAndHeldNotAbove32768();
        oldestNotAboveTheLastSample();
        differencesInBlocksOf15();
        anyCodeUpTo9();
        greaterCodeThanNeedBe();
        zerosUpToTheByte();
        nothingBehind();
        nothingMissing();
        leadToTheLastValue();
        moreThanAPacketHas();
        oldestHeardIfGreater();
        oldestHeardInAClash();
        clashesAtAnySample();
        clashBringsNothing();
        noClashWithTheSameValues();
        bringsWhatItDidNotHave();
        numbersOutsideAreNotHad();
        valueAndQuality0AreHad();
        gapsBetweenFirstAndLast();
        gapOfOneAndLongest();
        gapsByRisingNumbers();
        gapsSplitAndClosed();
        gapIndex();
        askForNoGap();
        askWithoutNumbersBelowOldest();
        askTheLeastNumber();
        askThenTheLeastChannel();
        askInARowUsedAgain();
        Checks.end();
    }

    /** A message of one sample of value 0 and quality 100. */
    private static String one(int channel, int oldest, int number) {
        return String.format("%02x640001%08x%08x%08x%08x", channel, oldest, number, 0, 0);
    }

    private static String empty(int oldest) {
        return String.format("00000000%08x%024x", oldest, 0);
    }

    private static void accepts(String why, String hex, int brought) {
        QuakeLink x = new QuakeLink();
        Checks.due("8: " + why, x.deliver(Slots.written(x, hex)), brought);
        Checks.due("21: not rejected, " + why, x.total(2), 0);
        Checks.due("20: samples, " + why, x.count(0, 5), brought);
    }

    private static void rejects(String why, String hex) {
        QuakeLink x = new QuakeLink();
        Checks.due("8: " + why, x.deliver(Slots.written(x, hex)), QuakeLink.NONE);
        Checks.due("21: rejected, " + why, x.total(2), 1);
        Checks.due("21: no clash, " + why, x.total(3), 0);
        Checks.due("20: no samples, " + why, x.count(0, 5), 0);
        Checks.due("20: OLDEST, " + why, x.count(0, 6), 0);
    }

    /** "there is no such channel" */
    private static void channelsAre0To3() {
        QuakeLink x = new QuakeLink();
        for (int channel = 0; channel < 4; channel++) {
            x.deliver(Slots.written(x, one(channel, 0, 3)));
            x.deliver(Slots.written(x, one(channel, 0, 5)));
        }
        for (int c : new int[] {MIN, -1, 4, 5, MAX}) {
            Checks.noSuch("15: channel " + c, () -> x.has(c, 3));
            Checks.noSuch("16: channel " + c, () -> x.at(c, 3));
            Checks.noSuch("17: channel " + c, () -> x.qualityAt(c, 3));
            Checks.noSuch("18: channel " + c, () -> x.gaps(c));
            Checks.noSuch("19: channel " + c, () -> x.gap(c, 0, false));
            Checks.noSuch("20: channel " + c, () -> x.count(c, 5));
        }
        for (int c = 0; c < 4; c++) {
            Checks.due("15: channel " + c, x.has(c, 3), true);
            Checks.due("16: channel " + c, x.at(c, 3), 0);
            Checks.due("17: channel " + c, x.qualityAt(c, 3), 100);
            Checks.due("18: channel " + c, x.gaps(c), 1);
            Checks.due("19: channel " + c, x.gap(c, 0, false), 4);
            Checks.due("20: channel " + c, x.count(c, 5), 2);
        }
    }

    /** "if it is no message": a request is none, whatever its bytes say. */
    private static void rejectedIfNoMessage() {
        QuakeLink x = new QuakeLink();
        int request = Slots.request(x);
        Checks.due("8: a request", x.deliver(request), QuakeLink.NONE);
        Slots.forgeHex(x, request, 0, "000000000000000000000000");
        Checks.due("8: a request that is all 0", x.deliver(request), QuakeLink.NONE);
        Slots.forgeHex(x, request, 0, "006400010000000000000000");
        Checks.due("8: a request that says a sample", x.deliver(request), QuakeLink.NONE);
        Checks.due("21: rejected", x.total(2), 3);
        Checks.due("20: samples", x.count(0, 5), 0);
    }

    /** "with a right check" */
    private static void rejectedIfAnyBitIsWrong() {
        for (int i = 0; i < 26; i++) {
            QuakeLink x = new QuakeLink();
            int slot = Slots.sent(x, 0, 100, 103, 99);
            for (int bit = 1; bit < 256; bit *= 2) {
                x.spoil(slot, i, bit);
                Checks.due("8: bit " + bit + " of byte " + i, x.deliver(slot), QuakeLink.NONE);
                x.spoil(slot, i, bit);
            }
            Checks.due("21: rejected", x.total(2), 8);
            Checks.due("8: right again", x.deliver(slot), 3);
        }
    }

    /** "whose bytes say a channel" */
    private static void saysAChannel() {
        for (int channel = 0; channel < 4; channel++) {
            QuakeLink x = new QuakeLink();
            Checks.due("8: channel " + channel, x.deliver(Slots.written(x, one(channel, 0, 0))), 1);
            Checks.due("15: channel " + channel, x.has(channel, 0), true);
        }
        for (int channel : new int[] {4, 5, 127, 128, 255}) {
            rejects("channel " + channel, one(channel, 0, 0));
        }
    }

    /** "a quality 0 .. 100" */
    private static void saysAQuality() {
        for (int quality : new int[] {0, 1, 99, 100}) {
            QuakeLink x = new QuakeLink();
            String hex = String.format("00%02x", quality) + one(0, 0, 0).substring(4);
            Checks.due("8: quality " + quality, x.deliver(Slots.written(x, hex)), 1);
            Checks.due("17: quality " + quality, x.qualityAt(0, 0), quality);
        }
        for (int quality : new int[] {101, 127, 128, 255}) {
            rejects("quality " + quality, String.format("00%02x", quality) + one(0, 0, 0).substring(4));
        }
    }

    /** "OLDEST not above 32768" */
    private static void oldestNotAbove32768() {
        for (int oldest : new int[] {0, 1, 32767, 32768}) {
            QuakeLink x = new QuakeLink();
            Checks.due("8: OLDEST " + oldest, x.deliver(Slots.written(x, empty(oldest))), 0);
            Checks.due("20: OLDEST " + oldest, x.count(0, 6), oldest);
        }
        for (int oldest : new int[] {32769, 65536, MAX, MIN, -1}) {
            rejects("OLDEST " + oldest, empty(oldest));
        }
        rejects("OLDEST 32769 with a sample", one(0, 32769, 32767));
    }

    /** "n = 0: just 24 bytes" */
    private static void emptyHasJust24Bytes() {
        accepts("24 bytes", empty(0), 0);
        rejects("25 bytes", empty(0) + "00");
        rejects("28 bytes", empty(0) + "00000000");
    }

    /** "with the quality .. 0" */
    private static void emptyHasQuality0() {
        for (int quality : new int[] {1, 100, 101}) {
            rejects("an empty one with quality " + quality, String.format("00%02x", quality) + empty(0).substring(4));
        }
    }

    /** "with the .. number and values 0": each of their bytes, by its lowest and its highest bit. */
    private static void emptyHasNumberAndValues0() {
        for (int i = 8; i < 20; i++) {
            for (String value : new String[] {"01", "80"}) {
                String hex = empty(7);
                rejects(value + " in byte " + i, hex.substring(0, 2 * i) + value + hex.substring(2 * i + 2));
            }
        }
    }

    /** "number and n together not above 32768" */
    private static void numberAndHeldNotAbove32768() {
        accepts("1 at 32766", one(0, 0, 32766), 1);
        accepts("1 at 32767", one(0, 0, 32767), 1);
        rejects("1 at 32768", one(0, 0, 32768));
        accepts("2 at 32766", Slots.head(2, 0, 32766, 0, 0) + "00", 2);
        rejects("2 at 32767", Slots.head(2, 0, 32767, 0, 0) + "00");
        String zeros = "00".repeat(34);
        accepts("1000 at 31768", Slots.head(1000, 0, 31768, 0, 0) + zeros, 1000);
        rejects("1000 at 31769", Slots.head(1000, 0, 31769, 0, 0) + zeros);
        rejects("1 at 65536", one(0, 0, 65536));
        for (int number : new int[] {MAX, MIN, -32768, -2, -1}) {
            rejects("1 at " + number + ", without a sign", one(0, 0, number));
            rejects("2 at " + number + ", without a sign", Slots.head(2, 0, number, 0, 0) + "00");
        }
    }

    /** "OLDEST not above the number of the last sample" */
    private static void oldestNotAboveTheLastSample() {
        accepts("0 of 0", one(0, 0, 0), 1);
        rejects("1 of 0", one(0, 1, 0));
        accepts("9 of 10", one(0, 9, 10), 1);
        accepts("10 of 10", one(0, 10, 10), 1);
        rejects("11 of 10", one(0, 11, 10));
        rejects("12 of 10", one(0, 12, 10));
        accepts("11 of 10 .. 12", Slots.head(3, 11, 10, 0, 0) + "00", 3);
        accepts("12 of 10 .. 12", Slots.head(3, 12, 10, 0, 0) + "00", 3);
        rejects("13 of 10 .. 12", Slots.head(3, 13, 10, 0, 0) + "00");
        rejects("14 of 10 .. 12", Slots.head(3, 14, 10, 0, 0) + "00");
        accepts("32767 of 32767", one(0, 32767, 32767), 1);
        rejects("32768 of 32767", one(0, 32768, 32767));
    }

    /** "n - 1 differences in such blocks" */
    private static void differencesInBlocksOf15() {
        accepts("no difference", Slots.head(1, 0, 0, 5, 5), 1);
        accepts("one difference", Slots.head(2, 0, 0, 5, 6) + "11", 2);
        String full = "1" + "1" + "0".repeat(14);
        accepts("14 differences", Slots.head(15, 0, 0, 0, 14) + full.substring(0, 15) + "0", 15);
        accepts("15 differences", Slots.head(16, 0, 0, 0, 15) + full, 16);
        accepts("16 differences", Slots.head(17, 0, 0, 0, 16) + full + "00", 17);
        accepts("16 differences, the last one 1", Slots.head(17, 0, 0, 0, 17) + full + "11", 17);
        accepts("30 differences", Slots.head(31, 0, 0, 0, 30) + full + "1" + "0".repeat(15), 31);
        accepts("31 differences", Slots.head(32, 0, 0, 0, 31) + full + "1" + "0".repeat(15) + "00", 32);
        rejects("16 differences in a block", Slots.head(17, 0, 0, 0, 17) + full + "f0");
        rejects("a second block too early", Slots.head(16, 0, 0, 0, 15) + full.substring(0, 15) + "10");
    }

    /** One difference 0 with the code, and as many 0s as it needs. */
    private static String coded(int code, int bits) {
        return Slots.bits(Integer.toBinaryString(16 + code).substring(1) + "0".repeat(bits));
    }

    /** "(any c up to 9" */
    private static void anyCodeUpTo9() {
        accepts("code 8", Slots.head(2, 0, 0, 5, 5) + coded(8, 24), 2);
        accepts("code 9", Slots.head(2, 0, 0, 5, 5) + coded(9, 32), 2);
        for (int code = 10; code < 16; code++) {
            for (int bits : new int[] {0, 4, 32, 40, 48, 64}) {
                rejects("code " + code, Slots.head(2, 0, 0, 5, 5) + coded(code, bits));
            }
        }
        rejects("code 10 in the second block", Slots.head(17, 0, 0, 5, 5) + "0a");
        rejects("code 15 in the second block", Slots.head(17, 0, 0, 5, 5) + "0f");
        accepts("code 9 in the second block", Slots.head(17, 0, 0, 5, 6) + "09" + "00000001", 17);
    }

    /** "also a greater one than need be)" */
    private static void greaterCodeThanNeedBe() {
        for (int code = 0; code < 10; code++) {
            accepts("0 with code " + code, Slots.head(2, 0, 0, 5, 5) + coded(code, WIDTHS[code]), 2);
            if (code > 0) {
                String c = Integer.toBinaryString(16 + code).substring(1);
                String minusOne = c + "1".repeat(WIDTHS[code]);
                accepts("-1 with code " + code, Slots.head(2, 0, 0, 5, 4) + Slots.bits(minusOne), 2);
                String least = c + "1" + "0".repeat(WIDTHS[code] - 1);
                int value = (int) -(1L << WIDTHS[code] - 1);
                accepts("the least with code " + code, Slots.head(2, 0, 0, 0, value) + Slots.bits(least), 2);
                String greatest = c + "0" + "1".repeat(WIDTHS[code] - 1);
                accepts("the greatest with code " + code, Slots.head(2, 0, 0, 0, ~value) + Slots.bits(greatest), 2);
            }
        }
    }

    /** "with 0s up to the byte" */
    private static void zerosUpToTheByte() {
        accepts("four 0s", Slots.head(2, 0, 0, 5, 5) + "00", 2);
        for (int k = 0; k < 4; k++) {
            rejects("a 1 among four 0s", Slots.head(2, 0, 0, 5, 5) + "0" + Integer.toHexString(1 << k));
        }
        accepts("six 0s", Slots.head(2, 0, 0, 5, 5) + "2000", 2);
        for (int k = 0; k < 6; k++) {
            rejects("a 1 among six 0s", Slots.head(2, 0, 0, 5, 5) + "20" + String.format("%02x", 1 << k));
        }
        accepts("two 0s", Slots.head(4, 0, 0, 5, 5) + "200000", 4);
        rejects("a 1 among two 0s", Slots.head(4, 0, 0, 5, 5) + "200001");
        rejects("a 1 among two 0s", Slots.head(4, 0, 0, 5, 5) + "200002");
        accepts("no 0s", Slots.head(3, 0, 0, 5, 6) + Slots.bits("0010 000001 111111"), 3);
    }

    /** "and nothing behind but the check" */
    private static void nothingBehind() {
        rejects("a byte behind one sample", Slots.head(1, 0, 0, 5, 5) + "00");
        rejects("a byte behind four 0s", Slots.head(2, 0, 0, 5, 5) + "0000");
        rejects("a byte behind no 0s", Slots.head(2, 0, 0, 5, 5) + "1000");
        rejects("four bytes behind", Slots.head(2, 0, 0, 5, 5) + "1000000000");
        rejects("a byte that is no 0 behind", Slots.head(2, 0, 0, 5, 5) + "1001");
    }

    /** The bytes must have all the differences: the check is none of them. */
    private static void nothingMissing() {
        rejects("no code", Slots.head(2, 0, 0, 5, 5));
        rejects("no code of a second block", Slots.head(17, 0, 0, 15, 31) + "1" + "1" + "0".repeat(14));
        rejects("two bits too few", Slots.head(2, 0, 0, 5, 5) + "20");
        rejects("four bits too few", Slots.head(3, 0, 0, 5, 5) + "10");
        rejects("a byte too few", Slots.head(2, 0, 0, 5, 5) + "900000");
        String block = "0010" + "0".repeat(90) + "1001";
        rejects("two bits of 32 too few", Slots.head(17, 0, 0, 5, 5) + Slots.bits(block + "0".repeat(30)));
        accepts("all of the 32 bits", Slots.head(17, 0, 0, 5, 5) + Slots.bits(block + "0".repeat(32)), 17);
        rejects("two bits of 96 too few", Slots.head(19, 0, 0, 5, 5) + Slots.bits(block + "0".repeat(94)));
        accepts("all of the 96 bits", Slots.head(19, 0, 0, 5, 5) + Slots.bits(block + "0".repeat(96)), 19);
        for (int code = 2; code < 10; code++) {
            String whole = coded(code, WIDTHS[code]);
            accepts("all of code " + code, Slots.head(2, 0, 0, 5, 5) + whole, 2);
            rejects("a byte too few of code " + code,
                    Slots.head(2, 0, 0, 5, 5) + whole.substring(0, whole.length() - 2));
        }
    }

    /** "that lead from x(0) to the last value" */
    private static void leadToTheLastValue() {
        accepts("5 to 5", Slots.head(1, 0, 0, 5, 5), 1);
        rejects("one sample, 5 to 6", Slots.head(1, 0, 0, 5, 6));
        rejects("one sample, 5 to 4", Slots.head(1, 0, 0, 5, 4));
        accepts("5 to 6 by 1", Slots.head(2, 0, 0, 5, 6) + "11", 2);
        rejects("5 to 5 by 1", Slots.head(2, 0, 0, 5, 5) + "11");
        rejects("5 to 7 by 1", Slots.head(2, 0, 0, 5, 7) + "11");
        rejects("5 to 6 and the highest bit by 1", Slots.head(2, 0, 0, 5, 6 | MIN) + "11");
        accepts("5, 6, 8 by 1 and 1", Slots.head(3, 0, 0, 5, 8) + "1110", 3);
        rejects("5, 6, 7 by 1 and 1", Slots.head(3, 0, 0, 5, 7) + "1110");
        accepts("the greatest to the least by 1", Slots.head(2, 0, 0, MAX, MIN) + "11", 2);
        accepts("the least to the greatest by -1", Slots.head(2, 0, 0, MIN, MAX) + "1f", 2);
    }

    /** No sentence bounds n but for the numbers: 1000 is what closes a packet of the station. */
    private static void moreThanAPacketHas() {
        accepts("1000", Slots.head(1000, 0, 0, 5, 5) + "00".repeat(34), 1000);
        accepts("1001", Slots.head(1001, 0, 0, 5, 5) + "00".repeat(34), 1001);
        accepts("1021", Slots.head(1021, 0, 0, 5, 5) + "00".repeat(34), 1021);
        rejects("1022", Slots.head(1022, 0, 0, 5, 5) + "00".repeat(34));
    }

    /** "Else OLDEST counts as heard for the channel, if it is greater than what was (0 at first)." */
    private static void oldestHeardIfGreater() {
        QuakeLink x = new QuakeLink();
        int[] oldest = {0, 1, 0, 5, 4, 5, 6, 32768, 32767};
        int[] due = {0, 1, 1, 5, 5, 5, 6, 32768, 32768};
        Checks.due("20: at first", x.count(0, 6), 0);
        for (int k = 0; k < oldest.length; k++) {
            Checks.due("8: OLDEST " + oldest[k], x.deliver(Slots.written(x, empty(oldest[k]))), 0);
            Checks.due("20: OLDEST after " + oldest[k], x.count(0, 6), due[k]);
        }
        Checks.due("20: another channel", x.count(1, 6), 0);
        x.deliver(Slots.written(x, one(1, 7, 7)));
        Checks.due("20: by a message with a sample", x.count(1, 6), 7);
        x.deliver(Slots.written(x, one(1, 6, 8)));
        Checks.due("20: less by a message with a sample", x.count(1, 6), 7);
    }

    private static void oldestHeardInAClash() {
        QuakeLink x = new QuakeLink();
        x.deliver(Slots.written(x, Slots.head(1, 0, 4, 5, 5)));
        Checks.due("8: clashes", x.deliver(Slots.written(x, Slots.head(1, 3, 4, 6, 6))), -2);
        Checks.due("20: OLDEST", x.count(0, 6), 3);
        Checks.due("8: clashes", x.deliver(Slots.written(x, Slots.head(1, 2, 4, 6, 6))), -2);
        Checks.due("20: OLDEST", x.count(0, 6), 3);
    }

    /** "if it has samples that the centre has with other values, it CLASHES" */
    private static void clashesAtAnySample() {
        // The message is 5 5 5 5 at 10 .. 13; the centre has a 6 at one number.
        for (int number = 9; number <= 14; number++) {
            QuakeLink x = new QuakeLink();
            x.deliver(Slots.written(x, Slots.head(1, 0, number, 6, 6)));
            boolean clash = number >= 10 && number <= 13;
            Checks.due("8: a 6 at " + number,
                    x.deliver(Slots.written(x, Slots.head(4, 0, 10, 5, 5) + "00")), clash ? -2 : 4);
            Checks.due("21: clashed", x.total(3), clash ? 1 : 0);
            Checks.due("21: not rejected", x.total(2), 0);
        }
        QuakeLink x = new QuakeLink();
        x.deliver(Slots.written(x, Slots.head(1, 0, 32767, 6, 6)));
        Checks.due("8: the last number", x.deliver(Slots.written(x, Slots.head(1, 0, 32767, 5, 5))), -2);
        Checks.due("8: the highest bit", x.deliver(Slots.written(x, Slots.head(1, 0, 32767, 6 | MIN, 6 | MIN))), -2);
        Checks.due("8: the same", x.deliver(Slots.written(x, Slots.head(1, 0, 32767, 6, 6))), 0);
    }

    /** "and brings nothing" */
    private static void clashBringsNothing() {
        QuakeLink x = new QuakeLink();
        x.quality(40);
        x.deliver(Slots.written(x, "0028" + Slots.head(1, 0, 12, 6, 6).substring(4)));
        Checks.due("8: clashes", x.deliver(Slots.written(x, Slots.head(4, 0, 10, 5, 5) + "00")), -2);
        Checks.due("20: samples", x.count(0, 5), 1);
        for (int number = 9; number <= 14; number++) {
            Checks.due("15: has " + number, x.has(0, number), number == 12);
            Checks.due("16: at " + number, x.at(0, number), number == 12 ? 6 : 0);
            Checks.due("17: quality of " + number, x.qualityAt(0, number), number == 12 ? 40 : QuakeLink.NONE);
        }
        Checks.due("18: gaps", x.gaps(0), 0);
    }

    private static void noClashWithTheSameValues() {
        QuakeLink x = new QuakeLink();
        x.deliver(Slots.written(x, Slots.head(4, 0, 10, 5, 5) + "00"));
        Checks.due("8: all the same", x.deliver(Slots.written(x, Slots.head(4, 0, 10, 5, 5) + "00")), 0);
        Checks.due("8: written otherwise", x.deliver(Slots.written(x, Slots.head(4, 0, 10, 5, 5) + "1000")), 0);
        Checks.due("8: others in another channel",
                x.deliver(Slots.written(x, "01" + Slots.head(1, 0, 10, 6, 6).substring(2))), 1);
        Checks.due("21: no clash", x.total(3), 0);
    }

    /** "else those that the centre did not have it has then, with the quality" */
    private static void bringsWhatItDidNotHave() {
        QuakeLink x = new QuakeLink();
        String low = "000a" + Slots.head(2, 0, 10, 5, 5).substring(4) + "00";
        Checks.due("8: 10 .. 11", x.deliver(Slots.written(x, low)), 2);
        Checks.due("8: 9 .. 12", x.deliver(Slots.written(x, Slots.head(4, 0, 9, 5, 5) + "00")), 2);
        int[] qualities = {-1, 100, 10, 10, 100, -1};
        for (int k = 0; k < 6; k++) {
            Checks.due("15: has " + (8 + k), x.has(0, 8 + k), qualities[k] >= 0);
            Checks.due("17: quality of " + (8 + k), x.qualityAt(0, 8 + k), qualities[k]);
        }
        Checks.due("8: 12 .. 13", x.deliver(Slots.written(x, Slots.head(2, 0, 12, 5, 5) + "00")), 1);
        Checks.due("8: 8 .. 9", x.deliver(Slots.written(x, Slots.head(2, 0, 8, 5, 5) + "00")), 1);
        Checks.due("8: 0", x.deliver(Slots.written(x, one(0, 0, 0))), 1);
        Checks.due("8: 32767", x.deliver(Slots.written(x, one(0, 0, 32767))), 1);
        Checks.due("20: samples", x.count(0, 5), 8);
    }

    /** "0 without it", "NONE without it": also of a number that no sample can have. */
    private static void numbersOutsideAreNotHad() {
        QuakeLink x = new QuakeLink();
        x.deliver(Slots.written(x, Slots.head(1, 0, 0, 5, 5)));
        x.deliver(Slots.written(x, Slots.head(1, 0, 32767, 6, 6)));
        for (int number : new int[] {MIN, -32768, -1, 1, 32766, 32768, 65535, 65536, MAX}) {
            Checks.due("15: has " + number, x.has(0, number), false);
            Checks.due("16: at " + number, x.at(0, number), 0);
            Checks.due("17: quality of " + number, x.qualityAt(0, number), QuakeLink.NONE);
        }
        Checks.due("16: at 0", x.at(0, 0), 5);
        Checks.due("16: at 32767", x.at(0, 32767), 6);
    }

    private static void valueAndQuality0AreHad() {
        QuakeLink x = new QuakeLink();
        x.deliver(Slots.written(x, "0000" + one(0, 0, 4).substring(4)));
        Checks.due("15: has", x.has(0, 4), true);
        Checks.due("16: at", x.at(0, 4), 0);
        Checks.due("17: quality", x.qualityAt(0, 4), 0);
        Checks.due("8: a clash with 0", x.deliver(Slots.written(x, Slots.head(1, 0, 4, 1, 1))), -2);
    }

    /** The centre gets a sample of each number, by one slot. */
    private static QuakeLink having(int... numbers) {
        QuakeLink x = new QuakeLink();
        int slot = Slots.sent(x, 0, 0);
        for (int number : numbers) {
            Slots.forgeFour(x, slot, 8, number);
            Checks.due("8: number " + number, x.deliver(slot), 1);
        }
        return x;
    }

    private static void hasGaps(String what, QuakeLink x, int... ends) {
        Checks.due("18: " + what, x.gaps(0), ends.length / 2);
        for (int i = 0; i < ends.length / 2; i++) {
            Checks.due("19: first of " + i + ", " + what, x.gap(0, i, false), ends[2 * i]);
            Checks.due("19: last of " + i + ", " + what, x.gap(0, i, true), ends[2 * i + 1]);
        }
        Checks.noSuch("19: none more, " + what, () -> x.gap(0, ends.length / 2, false));
    }

    /** "between the first and the last one that it has" */
    private static void gapsBetweenFirstAndLast() {
        hasGaps("no sample", new QuakeLink());
        hasGaps("0 alone", having(0));
        hasGaps("5 alone", having(5));
        hasGaps("32767 alone", having(32767));
        hasGaps("neighbours", having(5, 6));
        hasGaps("neighbours over a word", having(31, 32));
        hasGaps("neighbours at the end", having(32766, 32767));
        hasGaps("neighbours at the start", having(1, 0));
    }

    private static void gapOfOneAndLongest() {
        hasGaps("one", having(5, 7), 6, 6);
        hasGaps("one at the start", having(0, 2), 1, 1);
        hasGaps("one at the end", having(32765, 32767), 32766, 32766);
        hasGaps("a word", having(31, 64), 32, 63);
        hasGaps("the longest", having(0, 32767), 1, 32766);
    }

    /** "by rising numbers" */
    private static void gapsByRisingNumbers() {
        hasGaps("however they came", having(40, 10, 30, 20, 0), 1, 9, 11, 19, 21, 29, 31, 39);
    }

    /** "the longest rows of numbers that it has not" */
    private static void gapsSplitAndClosed() {
        QuakeLink x = having(0, 9);
        hasGaps("whole", x, 1, 8);
        int slot = x.total(1) - 1;
        int[] numbers = {4, 5, 1, 8, 2, 3, 7, 6};
        int[][] ends = {{1, 3, 5, 8}, {1, 3, 6, 8}, {2, 3, 6, 8}, {2, 3, 6, 7}, {3, 3, 6, 7}, {6, 7}, {6, 6}, {}};
        for (int k = 0; k < numbers.length; k++) {
            Slots.forgeFour(x, slot, 8, numbers[k]);
            x.deliver(slot);
            hasGaps("with " + numbers[k], x, ends[k]);
        }
    }

    /** "IndexOutOfBoundsException: there is no such .. gap" */
    private static void gapIndex() {
        QuakeLink x = having(0, 2, 4);
        for (int i : new int[] {MIN, -1, 2, 3, 32768, MAX}) {
            Checks.noSuch("19: gap " + i, () -> x.gap(0, i, false));
            Checks.noSuch("19: last of gap " + i, () -> x.gap(0, i, true));
        }
        Checks.due("19: gap 0", x.gap(0, 0, false), 1);
        Checks.due("19: gap 1", x.gap(0, 1, true), 3);
        Checks.noSuch("19: a channel without samples", () -> x.gap(1, 0, false));
        QuakeLink y = having(7);
        Checks.noSuch("19: a channel with one sample", () -> y.gap(0, 0, true));
    }

    private static void asks(String what, QuakeLink x, int channel, int from, int to) {
        Checks.due("7: " + what, Slots.hex(x, x.ask()),
                Slots.checked(String.format("%02x000000%08x%08x", channel, from, to)));
    }

    /** "NONE if there is none to be asked for" */
    private static void askForNoGap() {
        Checks.due("7: no sample", new QuakeLink().ask(), QuakeLink.NONE);
        QuakeLink x = having(3);
        Checks.due("7: one sample", x.ask(), QuakeLink.NONE);
        Checks.due("21: no slot", x.total(1), 1);
        x = having(3, 4);
        Checks.due("7: neighbours", x.ask(), QuakeLink.NONE);
        x = having(3, 5);
        asks("a gap of one", x, 0, 4, 4);
        asks("the same again", x, 0, 4, 4);
        Checks.due("21: slots", x.total(1), 3);
        asks("the longest gap", having(0, 32767), 0, 1, 32766);
    }

    private static void hears(QuakeLink x, int slot, int oldest) {
        Slots.forgeFour(x, slot, 4, oldest);
        Checks.due("8: OLDEST " + oldest, x.deliver(slot), 0);
    }

    /** "(without numbers below what it HEARD to be oldest)" */
    private static void askWithoutNumbersBelowOldest() {
        QuakeLink x = having(10, 20, 30);
        int slot = 0;
        int[] oldest = {0, 10, 11, 12, 19};
        int[] from = {11, 11, 11, 12, 19};
        for (int k = 0; k < oldest.length; k++) {
            hears(x, slot, oldest[k]);
            asks("OLDEST " + oldest[k], x, 0, from[k], 19);
        }
        hears(x, slot, 20);
        asks("OLDEST 20", x, 0, 21, 29);
        hears(x, slot, 29);
        asks("OLDEST 29", x, 0, 29, 29);
        hears(x, slot, 30);
        Checks.due("7: OLDEST 30", x.ask(), QuakeLink.NONE);
        hasGaps("the gaps are gaps still", x, 11, 19, 21, 29);
        QuakeLink y = having(0, 32767);
        y.deliver(Slots.written(y, empty(32766)));
        asks("OLDEST 32766", y, 0, 32766, 32766);
        y.deliver(Slots.written(y, empty(32767)));
        Checks.due("7: OLDEST 32767", y.ask(), QuakeLink.NONE);
        y.deliver(Slots.written(y, empty(32768)));
        Checks.due("7: OLDEST 32768", y.ask(), QuakeLink.NONE);
    }

    /** "the one with the least number": with what is left of it. */
    private static void askTheLeastNumber() {
        QuakeLink x = new QuakeLink();
        for (int number : new int[] {10, 20, 30}) {
            x.deliver(Slots.written(x, one(0, 0, number)));
        }
        x.deliver(Slots.written(x, one(2, 0, 9)));
        x.deliver(Slots.written(x, one(2, 0, 40)));
        asks("10 of channel 2", x, 2, 10, 39);
        x.deliver(Slots.written(x, "02" + empty(12).substring(2)));
        asks("11 of channel 0", x, 0, 11, 19);
        x.deliver(Slots.written(x, empty(13)));
        asks("12 of channel 2", x, 2, 12, 39);
        x.deliver(Slots.written(x, "02" + empty(22).substring(2)));
        x.deliver(Slots.written(x, empty(20)));
        asks("21 of channel 0", x, 0, 21, 29);
    }

    /** "then of the least channel" */
    private static void askThenTheLeastChannel() {
        QuakeLink x = new QuakeLink();
        for (int channel = 3; channel >= 0; channel--) {
            x.deliver(Slots.written(x, one(channel, 0, 5)));
            x.deliver(Slots.written(x, one(channel, 0, 7 + channel)));
            asks("the least channel", x, channel, 6, 6 + channel);
        }
    }

    /** "channel, three 0s": also where a message was whose bytes are no 0s, 64 slots before. */
    private static void askInARowUsedAgain() {
        QuakeLink x = having(0, 2);
        for (int k = 1; k < 68; k++) {
            x.samples(3, 300, -1, 0, 0);
            x.flush(3);
            x.turn();
        }
        asks("slot 68", x, 0, 1, 1);
        Checks.due("21: slots", x.total(1), 69);
    }
}
