/** The boundary cases of the document's part 2, the air: a test of its own for each sentence that names one. */
public final class AirEdgesTest {
    private static final int MIN = Integer.MIN_VALUE;
    private static final int MAX = Integer.MAX_VALUE;

    public static void main(String[] args) {
        slotsBeginAt0();
        notMadeYet();
        latest64();
        latest64TwiceRound();
        thrownAway();
        thrownAwayCountsAmong64();
        heardAsOften();
        lengths();
        bytesOfASlot();
        byteIs0To255();
        bytesOfARowUsedAgain();
        lowestEightBits();
        spoiledSlotAlone();
        mendShortest();
        mendLongest();
        mendChangesNoRightCheck();
        Checks.end();
    }

    private static void isGone(QuakeLink x, int slot) {
        Checks.noSuch("8: slot " + slot, () -> x.deliver(slot));
        Checks.noSuch("9: slot " + slot, () -> x.hear(slot));
        Checks.noSuch("10: slot " + slot, () -> x.lose(slot));
        Checks.noSuch("11: slot " + slot, () -> x.length(slot));
        Checks.noSuch("12: slot " + slot, () -> x.air(slot, 0));
        Checks.noSuch("13: slot " + slot, () -> x.spoil(slot, 0, 1));
        Checks.noSuch("14: slot " + slot, () -> x.mend(slot));
    }

    private static void isThere(QuakeLink x, int slot) {
        int length = x.length(slot);
        int first = x.air(slot, 0);
        x.spoil(slot, 0, 0);
        x.mend(slot);
        Checks.due("12: slot " + slot, x.air(slot, 0), first);
        Checks.due("8: slot " + slot, x.deliver(slot) == QuakeLink.NONE, length == 16);
        Checks.due("9: slot " + slot, x.hear(slot) == QuakeLink.NONE, length != 16);
    }

    /** "It has SLOTS 0, 1, .., one more with each message" */
    private static void slotsBeginAt0() {
        QuakeLink x = new QuakeLink();
        Checks.due("6: the first one", Slots.sent(x, 0, 1), 0);
        Checks.due("6: the second one", Slots.sent(x, 0, 2), 1);
        Checks.due("6: none", x.turn(), QuakeLink.NONE);
        Checks.due("7: none", x.ask(), QuakeLink.NONE);
        Checks.due("6: the third one", Slots.sent(x, 0, 3), 2);
        x.deliver(0);
        x.deliver(2);
        Checks.due("7: a request is one too", x.ask(), 3);
        Checks.due("21: slots", x.total(1), 4);
    }

    /** "there is no such .. slot (gone or not yet)" */
    private static void notMadeYet() {
        QuakeLink x = new QuakeLink();
        for (int slot : new int[] {MIN, -1, 0, 1, MAX}) {
            isGone(x, slot);
        }
        Slots.sent(x, 0, 1);
        isThere(x, 0);
        for (int slot : new int[] {MIN, -64, -1, 1, 64, MAX}) {
            isGone(x, slot);
        }
    }

    private static QuakeLink withSlots(int n) {
        QuakeLink x = new QuakeLink();
        for (int k = 0; k < n; k++) {
            x.sample(0, k);
            x.flush(0);
            x.turn();
        }
        return x;
    }

    /** "those but the latest 64 are gone" */
    private static void latest64() {
        QuakeLink x = withSlots(63);
        isThere(x, 0);
        isGone(x, 63);
        Slots.sent(x, 0, 63);
        isThere(x, 0);
        isThere(x, 63);
        isGone(x, 64);
        Slots.sent(x, 0, 64);
        isGone(x, 0);
        isThere(x, 1);
        isThere(x, 64);
        isGone(x, 65);
        Checks.due("21: slots", x.total(1), 65);
        Checks.due("8: another message in the same place", x.at(0, 64), 64);
        Checks.due("16: the first one was heard", x.at(0, 0), 0);
    }

    private static void latest64TwiceRound() {
        QuakeLink x = withSlots(128);
        isGone(x, 63);
        isThere(x, 64);
        isThere(x, 127);
        isGone(x, 128);
        Slots.sent(x, 0, -1);
        isGone(x, 0);
        isGone(x, 64);
        isThere(x, 65);
        isThere(x, 128);
    }

    /** "and those that were thrown away" */
    private static void thrownAway() {
        QuakeLink x = withSlots(3);
        x.lose(1);
        isGone(x, 1);
        isThere(x, 0);
        isThere(x, 2);
        Checks.due("21: slots were made", x.total(1), 3);
        x.lose(2);
        isGone(x, 2);
        Checks.due("6: the next one", Slots.sent(x, 0, 7), 3);
        isThere(x, 3);
        isGone(x, 2);
    }

    private static void thrownAwayCountsAmong64() {
        QuakeLink x = withSlots(64);
        x.lose(30);
        Slots.sent(x, 0, 0);
        isGone(x, 0);
        isThere(x, 1);
        isGone(x, 30);
        QuakeLink y = withSlots(1);
        y.lose(0);
        for (int k = 0; k < 64; k++) {
            Slots.sent(y, 0, 0);
        }
        isGone(y, 0);
        isThere(y, 64);
    }

    /** "A slot can be heard as often as one likes." */
    private static void heardAsOften() {
        QuakeLink x = new QuakeLink();
        int slot = Slots.sent(x, 0, 1, 2);
        Checks.due("8: first", x.deliver(slot), 2);
        Checks.due("8: second", x.deliver(slot), 0);
        Checks.due("8: third", x.deliver(slot), 0);
        x.spoil(slot, 0, 1);
        Checks.due("8: spoiled", x.deliver(slot), QuakeLink.NONE);
        Checks.due("8: spoiled", x.deliver(slot), QuakeLink.NONE);
        Checks.due("21: rejected twice", x.total(2), 2);
        Checks.due("9: bad", x.hear(slot), QuakeLink.NONE);
        Checks.due("9: bad", x.hear(slot), QuakeLink.NONE);
        Checks.due("21: bad twice", x.total(4), 2);
        Slots.forge(x, slot, 0, 0);
        Slots.forgeFour(x, slot, 8, 1);
        Checks.due("8: clashes", x.deliver(slot), -2);
        Checks.due("8: clashes", x.deliver(slot), -2);
        Checks.due("21: clashed twice", x.total(3), 2);
    }

    /** "How many bytes a slot has": 16 of a request, 24 at least and 512 at most of a message. */
    private static void lengths() {
        QuakeLink x = new QuakeLink();
        Checks.due("11: one sample", x.length(Slots.sent(x, 0, 1)), 24);
        Checks.due("11: two samples", x.length(Slots.sent(x, 0, 1, 1)), 25);
        x.samples(0, 917, 0, 7, 7);
        Checks.due("11: the longest", x.length(x.turn()), 512);
        x.deliver(0);
        x.deliver(2);
        Checks.due("11: a request", x.length(x.ask()), 16);
    }

    /** "there is no such .. byte" */
    private static void bytesOfASlot() {
        QuakeLink x = new QuakeLink();
        Slots.sent(x, 0, 1);
        x.samples(0, 917, 0, 7, 7);
        x.turn();
        x.deliver(0);
        Slots.forgeFour(x, 0, 8, 3);
        x.deliver(0);
        x.ask();
        int[] lengths = {24, 512, 16};
        for (int slot = 0; slot < 3; slot++) {
            int length = lengths[slot];
            for (int i : new int[] {MIN, -1, length, length + 1, 512, MAX}) {
                int of = slot;
                Checks.noSuch("12: byte " + i + " of " + length, () -> x.air(of, i));
                Checks.noSuch("13: byte " + i + " of " + length, () -> x.spoil(of, i, 1));
            }
            for (int i : new int[] {0, length - 1}) {
                int before = x.air(slot, i);
                x.spoil(slot, i, 255);
                Checks.due("13: byte " + i + " of " + length, x.air(slot, i), before ^ 255);
            }
        }
    }

    /** "Byte i of a slot": as bytes of a message are, without a sign. */
    private static void byteIs0To255() {
        QuakeLink x = new QuakeLink();
        int slot = Slots.sent(x, 0, 0x007f80ff);
        int[] due = {0, 127, 128, 255};
        for (int k = 0; k < 4; k++) {
            Checks.due("12: byte " + due[k], x.air(slot, 12 + k), due[k]);
        }
    }

    /** A longer message was in the same place, 64 slots before. */
    private static void bytesOfARowUsedAgain() {
        QuakeLink x = new QuakeLink();
        x.samples(0, 917, -1, -7, -7);
        x.flush(0);
        for (int k = 0; k < 62; k++) {
            x.sample(0, -1);
            x.flush(0);
            x.turn();
        }
        x.turn();
        x.turn();
        Checks.due("6: slot 64", Slots.sent(x, 1, 5), 64);
        Checks.due("11: its length", x.length(64), 24);
        Checks.due("12: its bytes", Slots.hex(x, 64),
                Slots.checked("01640001" + "00000000" + "00000000" + "00000005" + "00000005"));
        Checks.noSuch("12: none of the other message", () -> x.air(64, 24));
    }

    /** "xor mask (its lowest eight bits)" */
    private static void lowestEightBits() {
        QuakeLink x = new QuakeLink();
        int slot = Slots.sent(x, 0, 0x5a);
        int[] masks = {0, 1, 128, 255, 256, 0x1ff, -1, -256, MIN, MAX};
        int value = 0x5a;
        for (int mask : masks) {
            x.spoil(slot, 15, mask);
            value ^= mask & 255;
            Checks.due("13: mask " + mask, x.air(slot, 15), value);
        }
        Checks.due("13: the byte before", x.air(slot, 14), 0);
        Checks.due("13: the byte behind", x.air(slot, 16), 0);
    }

    private static void spoiledSlotAlone() {
        QuakeLink x = new QuakeLink();
        x.sample(0, 9);
        x.flush(0);
        int first = x.turn();
        int request = Slots.request(x);
        Slots.asked(x, request, 0, 0, 0);
        int second = x.turn();
        x.spoil(first, 15, 3);
        x.lose(first);
        Checks.due("13: another slot", x.air(second, 15), 9);
        Slots.asked(x, request, 0, 0, 0);
        Checks.due("13: the packet of the ring", x.air(x.turn(), 15), 9);
    }

    /** "The last four bytes of a slot become the check of those before": of 12, in the shortest. */
    private static void mendShortest() {
        QuakeLink x = new QuakeLink();
        int request = Slots.request(x);
        for (int i = 0; i < 16; i++) {
            x.spoil(request, i, 17 * i + 1);
        }
        String before = Slots.hex(x, request).substring(0, 24);
        x.mend(request);
        Checks.due("14: a request", Slots.hex(x, request), Slots.checked(before));
    }

    /** Of 508, in the longest. */
    private static void mendLongest() {
        QuakeLink x = new QuakeLink();
        x.samples(0, 917, 0, 7, 7);
        int slot = x.turn();
        for (int i = 507; i < 512; i++) {
            x.spoil(slot, i, 1);
        }
        Checks.due("8: spoiled", x.deliver(slot), QuakeLink.NONE);
        x.mend(slot);
        // The last difference is 6 and not 7 now, and the last value not the one that is said.
        Checks.due("8: with a right check", x.deliver(slot), QuakeLink.NONE);
        int last = 7 * 916 * 915 / 2;
        Slots.forgeFour(x, slot, 16, last - 1);
        Checks.due("8: and the right last value", x.deliver(slot), 916);
        Checks.due("16: its value", x.at(0, 915), last - 1);
    }

    private static void mendChangesNoRightCheck() {
        QuakeLink x = new QuakeLink();
        int slot = Slots.sent(x, 2, 4, 5, 6);
        String before = Slots.hex(x, slot);
        x.mend(slot);
        Checks.due("14: as it was", Slots.hex(x, slot), before);
        x.spoil(slot, 20, 1);
        x.mend(slot);
        x.spoil(slot, 20, 1);
        x.mend(slot);
        Checks.due("14: as it was", Slots.hex(x, slot), before);
    }
}
