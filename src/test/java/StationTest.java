/** Promises 1 to 6, and what the station says of itself (20, 21). */
public final class StationTest {
    public static void main(String[] args) {
        newObject();
        sample();
        sampleLimit();
        samples();
        samplesRefused();
        closing();
        closingByBytes();
        quality();
        flush();
        messageBytes();
        messageWidths();
        ring();
        turnOrder();
        turnAlternates();
        turnAnswersGone();
        turnLeastAsked();
        turnAskedZero();
        rowsUsedAgain();
        wrongWhat();
        Checks.end();
    }

    private static void newObject() {
        QuakeLink x = new QuakeLink();
        for (int channel = 0; channel < 4; channel++) {
            for (int what = 0; what <= 6; what++) {
                Checks.due("1: count(" + channel + ", " + what + ")", x.count(channel, what), 0);
            }
            Checks.due("1: gaps", x.gaps(channel), 0);
            Checks.due("1: has", x.has(channel, 0), false);
        }
        for (int what = 0; what <= 4; what++) {
            Checks.due("1: total(" + what + ")", x.total(what), 0);
        }
        Checks.noSuch("1: length(0)", () -> x.length(0));
        Checks.due("1: turn", x.turn(), QuakeLink.NONE);
        Checks.due("1: ask", x.ask(), QuakeLink.NONE);
        Checks.due("1: total(1)", x.total(1), 0);
        Checks.due("1: quality", x.air(Slots.sent(x, 0, 1), 1), 100);
        Checks.due("1: NONE", QuakeLink.NONE, -1);
    }

    private static void sample() {
        QuakeLink x = new QuakeLink();
        Checks.due("2: sample", x.sample(3, 5), 0);
        Checks.due("2: sample", x.sample(3, -5), 1);
        Checks.due("2: another channel", x.sample(0, 5), 0);
        Checks.due("2: taken", x.count(3, 0), 2);
        Checks.due("2: open", x.count(3, 3), 2);
        Checks.noSuch("2: channel -1", () -> x.sample(-1, 0));
        Checks.noSuch("2: channel 4", () -> x.sample(4, 0));
        Checks.due("2: taken", x.count(3, 0), 2);
    }

    private static void sampleLimit() {
        QuakeLink x = filled();
        Checks.due("2: last number", x.sample(1, 7), 32767);
        Checks.noState("2: beyond 32768", () -> x.sample(1, 7));
        Checks.noState("3: beyond 32768", () -> x.samples(1, 1, 0, 0, 0));
        Checks.noArgument("3: n is named before the limit", () -> x.samples(1, 0, 0, 0, 0));
        Checks.noSuch("2: channel is named before the limit", () -> x.sample(4, 0));
        Checks.due("2: taken", x.count(1, 0), 32768);
        Checks.due("2: open", x.count(1, 3), 768);
        Checks.due("5: flush of the last ones", x.flush(1), 768);
        askedLast(x);
        Checks.due("2: another channel goes on", x.sample(2, 0), 0);
    }

    private static void askedLast(QuakeLink x) {
        // Nothing may wait when the asked packet is to be sent; a gap of channel 0 lends its request.
        for (int k = 0; k < 32; k++) {
            x.turn();
        }
        x.deliver(Slots.sent(x, 0, 1));
        Slots.sent(x, 0, 2);
        x.deliver(Slots.sent(x, 0, 3));
        int request = x.ask();
        Slots.forge(x, request, 0, 1);
        Slots.forgeFour(x, request, 4, 32000);
        Slots.forgeFour(x, request, 8, 32767);
        Checks.due("9: the last numbers", x.hear(request), 768);
        Checks.due("6: number", x.air(x.turn(), 10), 32000 >> 8);
        Checks.due("6: the last number is asked for no more", x.count(1, 4), 0);
    }

    /** Channel 1 with 32767 samples, all 0. */
    private static QuakeLink filled() {
        QuakeLink x = new QuakeLink();
        for (int k = 0; k < 16; k++) {
            x.samples(1, 2000, 0, 0, 0);
        }
        x.samples(1, 767, 0, 0, 0);
        return x;
    }

    private static void samples() {
        QuakeLink x = new QuakeLink();
        Checks.due("3: first number", x.samples(0, 4, 10, 3, -2), 0);
        Checks.due("3: next number", x.samples(0, 3, Integer.MAX_VALUE, 1, Integer.MAX_VALUE), 4);
        x.flush(0);
        x.deliver(x.turn());
        int[] values = {10, 13, 14, 13, Integer.MAX_VALUE, Integer.MIN_VALUE, 0};
        for (int k = 0; k < values.length; k++) {
            Checks.due("3: value " + k, x.at(0, k), values[k]);
        }
        Checks.due("3: one", x.samples(0, 1, 1, 1, 1), 7);
        Checks.due("3: most", x.samples(0, 2000, 1, 0, 0), 8);
    }

    private static void samplesRefused() {
        QuakeLink x = filled();
        Checks.noSuch("3: channel -1", () -> x.samples(-1, 0, 0, 0, 0));
        Checks.noSuch("3: channel 4", () -> x.samples(4, 2001, 0, 0, 0));
        Checks.noArgument("3: n 0", () -> x.samples(0, 0, 0, 0, 0));
        Checks.noArgument("3: n -1", () -> x.samples(0, -1, 0, 0, 0));
        Checks.noArgument("3: n 2001", () -> x.samples(1, 2001, 0, 0, 0));
        Checks.noArgument("3: greatest n", () -> x.samples(1, Integer.MAX_VALUE, 0, 0, 0));
        Checks.noState("3: one too many", () -> x.samples(1, 2, 0, 0, 0));
        Checks.due("3: nothing was taken", x.count(1, 0), 32767);
        Checks.due("3: just as many", x.samples(1, 1, 0, 0, 0), 32767);
    }

    private static void closing() {
        QuakeLink x = new QuakeLink();
        x.samples(0, 999, 1, 0, 0);
        Checks.due("2: 999 are open", x.count(0, 3), 999);
        Checks.due("2: none waits", x.total(0), 0);
        Checks.due("20: OLDEST before", x.count(0, 1), 0);
        x.sample(0, 1);
        Checks.due("2: 1000 are closed", x.count(0, 3), 0);
        Checks.due("2: ring", x.count(0, 2), 1);
        Checks.due("2: it waits", x.total(0), 1);
        Checks.due("5: nothing to close", x.flush(0), 0);
        x.samples(0, 2000, 1, 0, 0);
        Checks.due("3: ring", x.count(0, 2), 3);
        Checks.due("11: 999 differences of no width", x.length(x.turn()), 24 + 34);
    }

    private static void closingByBytes() {
        QuakeLink x = new QuakeLink();
        // Blocks of 15 differences of 24 bits, 46 bytes for each 15 but for half a byte: 10 blocks are 455 bytes
        // and 10 differences more 30 and a half: 509.5 in all, and a difference more would be 512.5.
        x.samples(0, 161, 0, 0, 1 << 22);
        Checks.due("2: up to 512 bytes", x.count(0, 3), 161);
        x.samples(0, 2, 0, 0, 0);
        Checks.due("2: the next one begins a packet", x.count(0, 2), 1);
        Checks.due("2: closed", x.length(x.turn()), 510);

        QuakeLink y = new QuakeLink();
        // 976 half bytes: eight blocks of 15 at 32 bits are 968, a block of one at 16 bits 5 more, 973; with a
        // second one at 16 bits 977.
        y.samples(0, 121, 0, 0, 1 << 30);
        int last = 119 * 120 / 2 << 30;
        int step = 119 << 30;
        Checks.due("3: open", y.count(0, 3), 121);
        last += step + (1 << 14);
        step += 1 << 14;
        y.sample(0, last);
        Checks.due("2: a narrow difference has room", y.count(0, 3), 122);
        y.sample(0, last + step);
        Checks.due("2: even a 0 has none in a wide block", y.count(0, 3), 1);
        Checks.due("2: closed", y.length(y.turn()), 511);
        closingAtJust512();
    }

    private static void closingAtJust512() {
        QuakeLink x = new QuakeLink();
        // 968 half bytes, and a block of one difference at 20 bits, or 24: 974, or 975; 976 are reached by seven
        // of 4 bits: 968 + 1 + 7.
        x.samples(0, 121, 0, 0, 1 << 30);
        int value = 119 * 120 / 2 << 30;
        int step = 119 << 30;
        for (int k = 0; k < 7; k++) {
            step += 7;
            value += step;
            x.sample(0, value);
        }
        Checks.due("2: just 512 bytes are not too long", x.count(0, 3), 128);
        x.sample(0, value + step);
        Checks.due("2: but with one more", x.count(0, 3), 1);
        int slot = x.turn();
        Checks.due("2: closed at 512", x.length(slot), 512);
        Checks.due("2: and heard", x.deliver(slot), 128);
        Checks.due("2: its last one", x.at(0, 127), value);
    }

    private static void quality() {
        QuakeLink x = new QuakeLink();
        Checks.noArgument("4: -1", () -> x.quality(-1));
        Checks.noArgument("4: 101", () -> x.quality(101));
        Checks.due("4: as it was", x.air(Slots.sent(x, 0, 1), 1), 100);
        x.sample(0, 1);
        x.quality(0);
        x.flush(0);
        x.quality(33);
        Checks.due("4: when it was closed", x.air(x.turn(), 1), 0);
        x.samples(0, 1001, 0, 0, 0);
        x.quality(100);
        Checks.due("4: closed by its samples", x.air(x.turn(), 1), 33);
        x.flush(0);
        Checks.due("4: for all later ones", x.air(x.turn(), 1), 100);
        Checks.due("4: for all channels", x.air(Slots.sent(x, 2, 1), 1), 100);
    }

    private static void flush() {
        QuakeLink x = new QuakeLink();
        Checks.due("5: none", x.flush(0), 0);
        Checks.due("5: no packet", x.count(0, 2), 0);
        x.samples(0, 3, 0, 0, 0);
        x.sample(1, 0);
        Checks.due("5: three", x.flush(0), 3);
        Checks.due("5: none more", x.flush(0), 0);
        Checks.due("5: ring", x.count(0, 2), 1);
        Checks.due("5: open of another channel", x.count(1, 3), 1);
        Checks.due("5: waits", x.total(0), 1);
        Checks.noSuch("5: channel -1", () -> x.flush(-1));
        Checks.noSuch("5: channel 4", () -> x.flush(4));
    }

    private static void messageBytes() {
        QuakeLink x = new QuakeLink();
        Checks.due("6: one sample", Slots.hex(x, Slots.sent(x, 2, -2)),
                Slots.checked("0264" + "0001" + "00000000" + "00000000" + "fffffffe" + "fffffffe"));
        // d(1) = 3 and d(2) = -7 in four bits each.
        Checks.due("6: three samples", Slots.hex(x, Slots.sent(x, 2, 100, 103, 99)),
                Slots.checked("0264" + "0003" + "00000000" + "00000001" + "00000064" + "00000063" + "1390"));
        // Sixteen differences, 1 and then 0s: the second block has one of no width.
        x.samples(2, 17, 5, 1, 0);
        x.flush(2);
        Checks.due("6: two blocks", Slots.hex(x, x.turn()), Slots.checked("0264" + "0011" + "00000000" + "00000004"
                + "00000005" + "00000015" + "11" + "0000000000000000"));
        // d(1) = 8 has no room in four bits: six, 001000 000000.
        Checks.due("6: six bits", Slots.hex(x, Slots.sent(x, 2, 0, 8, 16)),
                Slots.checked("0264" + "0003" + "00000000" + "00000015" + "00000000" + "00000010" + "2200"));
        // All differences wrap: d(1) = -1, d(2) = 1.
        Checks.due("6: wrapped", Slots.hex(x, Slots.sent(x, 2, -2147483648, 2147483647, 2147483647)),
                Slots.checked("0264" + "0003" + "00000000" + "00000018" + "80000000" + "7fffffff" + "1f10"));
    }

    private static void messageWidths() {
        int[] widths = {0, 4, 6, 8, 10, 12, 16, 20, 24, 32};
        for (int c = 1; c < widths.length; c++) {
            int low = (int) -(1L << widths[c] - 1);
            oneDifference(low, c, widths[c]);
            oneDifference(-(low + 1), c, widths[c]);
            if (c < 9) {
                oneDifference(low - 1, c + 1, widths[c + 1]);
                oneDifference(-low, c + 1, widths[c + 1]);
            }
        }
        oneDifference(0, 0, 0);
        oneDifference(1, 1, 4);
        oneDifference(-1, 1, 4);
    }

    private static void oneDifference(int difference, int c, int width) {
        QuakeLink x = new QuakeLink();
        int slot = Slots.sent(x, 0, 1000, 1000 + difference);
        Checks.due("6: code of " + difference, x.air(slot, 20) >> 4, c);
        Checks.due("6: bytes of " + difference, x.length(slot), 24 + (4 + width + 7) / 8);
        Checks.due("8: heard " + difference, x.deliver(slot), 2);
        Checks.due("16: value of " + difference, x.at(0, 1), 1000 + difference);
    }

    private static void ring() {
        QuakeLink x = new QuakeLink();
        for (int k = 0; k < 32; k++) {
            x.samples(3, 2, k, 0, 0);
            x.flush(3);
        }
        Checks.due("20: ring", x.count(3, 2), 32);
        Checks.due("20: OLDEST", x.count(3, 1), 0);
        Checks.due("21: wait", x.total(0), 32);
        x.samples(3, 2, 32, 0, 0);
        Checks.due("20: an open one drops none", x.count(3, 1), 0);
        x.flush(3);
        Checks.due("20: ring", x.count(3, 2), 32);
        Checks.due("20: OLDEST", x.count(3, 1), 2);
        Checks.due("21: the dropped one waits no more", x.total(0), 32);
        Checks.due("6: the first that waits", x.air(x.turn(), 11), 2);
        Checks.due("21: wait", x.total(0), 31);
        x.samples(3, 1, 0, 0, 0);
        x.flush(3);
        Checks.due("21: a sent one is dropped", x.total(0), 32);
        int slot = x.turn();
        Checks.due("6: number", x.air(slot, 11), 4);
        Checks.due("6: OLDEST as it is when it is sent", x.air(slot, 7), 4);
    }

    private static void turnOrder() {
        QuakeLink x = new QuakeLink();
        x.sample(0, 1);
        x.sample(3, 2);
        x.flush(3);
        x.flush(0);
        x.sample(3, 3);
        x.sample(1, 4);
        x.flush(1);
        x.flush(3);
        int[] channels = {3, 0, 1, 3};
        for (int k = 0; k < 4; k++) {
            Checks.due("21: wait", x.total(0), 4 - k);
            Checks.due("6: slot", x.turn(), k);
            Checks.due("6: first closed first", x.air(k, 0), channels[k]);
        }
        Checks.due("6: nothing is sent", x.turn(), QuakeLink.NONE);
        Checks.due("21: slots", x.total(1), 4);
    }

    /** The centre has 0 and 2 of the channel; 1 is asked for. */
    private static QuakeLink withGapAsked(int channel) {
        QuakeLink x = new QuakeLink();
        x.deliver(Slots.sent(x, channel, 10));
        Slots.sent(x, channel, 11);
        x.deliver(Slots.sent(x, channel, 12));
        Checks.due("9: asked", x.hear(x.ask()), 1);
        return x;
    }

    private static void turnAlternates() {
        QuakeLink x = withGapAsked(1);
        x.sample(0, 1);
        x.flush(0);
        x.sample(0, 2);
        x.flush(0);
        int slot = x.turn();
        Checks.due("6: what was sent last had waited", x.air(slot, 0), 1);
        Checks.due("6: the packet that has it", x.air(slot, 11), 1);
        Checks.due("6: asked for no more", x.count(1, 4), 0);
        Checks.due("9: asked again", x.hear(x.total(1) - 2), 1);
        Checks.due("6: what was sent last was asked for", x.air(x.turn(), 0), 0);
        Checks.due("21: one waits", x.total(0), 1);
        Checks.due("6: what was sent last had waited", x.air(x.turn(), 0), 1);
        Checks.due("6: none is asked for", x.air(x.turn(), 0), 0);
        Checks.due("6: nothing", x.turn(), QuakeLink.NONE);
        askedMayWaitStill();
    }

    private static void askedMayWaitStill() {
        QuakeLink x = withGapAsked(1);
        x.sample(1, 13);
        x.flush(1);
        x.sample(1, 14);
        x.flush(1);
        int request = x.total(1) - 1;
        Slots.forgeFour(x, request, 4, 3);
        Slots.forgeFour(x, request, 8, 4);
        Checks.due("9: packets that wait", x.hear(request), 2);
        Checks.due("6: asked for", x.air(x.turn(), 11), 1);
        int slot = x.turn();
        Checks.due("6: first that waits", x.air(slot, 11), 3);
        Checks.due("6: sent because it waited, and asked for still", x.count(1, 4), 2);
        Checks.due("6: asked for", x.air(x.turn(), 11), 3);
        Checks.due("6: its numbers are asked for no more", x.count(1, 4), 1);
        Checks.due("6: next that waits", x.air(x.turn(), 11), 4);
        Checks.due("21: none waits", x.total(0), 0);
        x.sample(1, 15);
        x.flush(1);
        Slots.forgeFour(x, request, 4, 5);
        Slots.forgeFour(x, request, 8, 5);
        Checks.due("9: the next one", x.hear(request), 1);
        Checks.due("6: asked for", x.air(x.turn(), 11), 4);
        Checks.due("6: first that waits", x.air(x.turn(), 11), 5);
        Checks.due("6: asked for", x.air(x.turn(), 11), 5);
        Checks.due("6: nothing", x.turn(), QuakeLink.NONE);
        askedBeforeItWaited();
    }

    private static void askedBeforeItWaited() {
        QuakeLink x = withGapAsked(1);
        x.sample(1, 13);
        x.flush(1);
        int request = x.total(1) - 1;
        Checks.due("6: asked for", x.air(x.turn(), 11), 1);
        x.sample(0, 0);
        x.flush(0);
        Slots.sent(x, 0);
        Checks.due("21: one waits", x.total(0), 1);
        Slots.forgeFour(x, request, 4, 3);
        Slots.forgeFour(x, request, 8, 3);
        x.sample(1, 14);
        x.flush(1);
        Checks.due("9: 3 was sent", x.hear(request), 1);
        Checks.due("6: asked for", x.air(x.turn(), 11), 3);
        Slots.forgeFour(x, request, 4, 4);
        Slots.forgeFour(x, request, 8, 4);
        Checks.due("9: 4 waits behind channel 0", x.hear(request), 1);
        Checks.due("6: channel 0 waits first", x.air(x.turn(), 0), 0);
        Checks.due("6: 4 is asked for", x.air(x.turn(), 11), 4);
        Checks.due("21: and waits still", x.total(0), 1);
        Checks.due("6: 4 again", x.air(x.turn(), 11), 4);
        Checks.due("21: none waits", x.total(0), 0);
    }

    private static void turnAnswersGone() {
        QuakeLink x = withGapAsked(2);
        int request = x.total(1) - 1;
        Slots.forgeFour(x, request, 4, 0);
        Slots.forgeFour(x, request, 8, 99);
        x.samples(2, 5, 0, 0, 0);
        x.flush(2);
        Checks.due("9: all that are closed", x.hear(request), 7);
        for (int k = 0; k < 30; k++) {
            x.sample(2, k);
            x.flush(2);
        }
        Checks.due("20: OLDEST", x.count(2, 1), 2);
        int slot = x.turn();
        Checks.due("6: empty", Slots.hex(x, slot),
                Slots.checked("0200" + "0000" + "00000002" + "000000000000000000000000"));
        Checks.due("6: below OLDEST asked for no more", x.count(2, 4), 6);
        Checks.due("8: an empty message", x.deliver(slot), 0);
        Checks.due("20: OLDEST as heard", x.count(2, 6), 2);
        Checks.due("6: the first that waits", x.air(x.turn(), 11), 3);
        slot = x.turn();
        Checks.due("6: the packet that has 2", x.air(slot, 11), 2);
        Checks.due("6: asked for", x.count(2, 4), 5);
        x.turn();
        slot = x.turn();
        Checks.due("6: the packet that has 3", x.air(slot, 3), 5);
        Checks.due("6: none is asked for", x.count(2, 4), 0);
    }

    private static void turnLeastAsked() {
        QuakeLink x = new QuakeLink();
        for (int channel = 3; channel >= 0; channel--) {
            x.deliver(Slots.sent(x, channel, channel == 3 ? new int[] {1} : new int[] {1, 2}));
            Slots.sent(x, channel, 3, 4);
            x.deliver(Slots.sent(x, channel, 5));
        }
        int request = x.ask();
        for (int channel = 0; channel < 4; channel++) {
            Slots.forge(x, request, 0, channel);
            Slots.forgeFour(x, request, 4, channel == 3 ? 1 : 3);
            Slots.forgeFour(x, request, 8, channel == 3 ? 2 : 3);
            Checks.due("9: asked", x.hear(request), channel == 3 ? 2 : 1);
        }
        int[] channels = {3, 0, 1, 2};
        for (int channel : channels) {
            Checks.due("6: least number, then least channel", x.air(x.turn(), 0), channel);
        }
        Checks.due("6: nothing", x.turn(), QuakeLink.NONE);
    }

    private static void turnAskedZero() {
        QuakeLink x = withGapAsked(1);
        int request = x.total(1) - 1;
        x.turn();
        Slots.forgeFour(x, request, 4, 0);
        Slots.forgeFour(x, request, 8, 0);
        Checks.due("9: number 0", x.hear(request), 1);
        int slot = x.turn();
        Checks.due("6: number 0 was asked for", slot, request + 2);
        Checks.due("6: the packet that has it", x.air(slot, 11), 0);
        Checks.due("6: asked for no more", x.count(1, 4), 0);
    }

    /** More packets than the ring has, and more slots than the air: nothing of the earlier ones may be left. */
    private static void rowsUsedAgain() {
        QuakeLink x = new QuakeLink();
        int number = 0;
        for (int k = 0; k < 70; k++) {
            int n = 1 + k * 7 % 40;
            x.samples(0, n, -1 - k, 1 << k % 31, k * 1000);
            Checks.due("5: packet " + k, x.flush(0), n);
            int slot = x.turn();
            if (k != 50) {
                Checks.due("8: packet " + k, x.deliver(slot), n);
                Checks.due("16: packet " + k, x.at(0, number), -1 - k);
            }
            number += n;
        }
        Checks.due("18: the packet that was not heard", x.gaps(0), 1);
        int from = x.gap(0, 0, false);
        int to = x.gap(0, 0, true);
        String request = Slots.checked(String.format("00000000%08x%08x", from, to));
        int slot = x.ask();
        Checks.due("7: bytes", Slots.hex(x, slot), request);
        Slots.forgeFour(x, slot, 4, 0);
        Slots.forgeFour(x, slot, 8, 0);
        x.hear(slot);
        String empty = Slots.checked(String.format("00000000%08x%024x", x.count(0, 1), 0));
        Checks.due("6: empty", Slots.hex(x, x.turn()), empty);
        for (int k = 0; k < 4; k++) {
            Checks.due("7: bytes", Slots.hex(x, x.ask()), request);
        }
    }

    private static void wrongWhat() {
        QuakeLink x = new QuakeLink();
        Checks.noArgument("20: -1", () -> x.count(0, -1));
        Checks.noArgument("20: 7", () -> x.count(3, 7));
        Checks.noSuch("20: channel -1", () -> x.count(-1, 0));
        Checks.noSuch("20: channel is named first", () -> x.count(4, 7));
        Checks.noArgument("21: -1", () -> x.total(-1));
        Checks.noArgument("21: 5", () -> x.total(5));
    }
}
