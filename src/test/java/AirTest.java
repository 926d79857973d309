/** Promises 10 to 14, and what the station hears (9). */
public final class AirTest {
    public static void main(String[] args) {
        slots();
        latestSlots();
        lose();
        bytes();
        spoil();
        mend();
        hear();
        hearBad();
        hearBounds();
        hearOpen();
        Checks.end();
    }

    private static void refusesSlot(QuakeLink x, int slot) {
        String name = " of slot " + slot;
        Checks.noSuch("8: deliver" + name, () -> x.deliver(slot));
        Checks.noSuch("9: hear" + name, () -> x.hear(slot));
        Checks.noSuch("10: lose" + name, () -> x.lose(slot));
        Checks.noSuch("11: length" + name, () -> x.length(slot));
        Checks.noSuch("12: air" + name, () -> x.air(slot, 0));
        Checks.noSuch("13: spoil" + name, () -> x.spoil(slot, 0, 1));
        Checks.noSuch("14: mend" + name, () -> x.mend(slot));
        Checks.due("21: none rejected", x.total(2), 0);
        Checks.due("21: none bad", x.total(4), 0);
    }

    private static void slots() {
        QuakeLink x = new QuakeLink();
        refusesSlot(x, 0);
        refusesSlot(x, -1);
        Slots.sent(x, 0, 1);
        refusesSlot(x, 1);
        refusesSlot(x, -1);
        refusesSlot(x, -64);
        refusesSlot(x, 64);
        refusesSlot(x, Integer.MIN_VALUE);
        refusesSlot(x, Integer.MAX_VALUE);
        Checks.due("11: slot 0", x.length(0), 24);
        Checks.due("21: slots", x.total(1), 1);
    }

    private static void latestSlots() {
        QuakeLink x = new QuakeLink();
        for (int k = 0; k < 64; k++) {
            Checks.due("6: slot", Slots.sent(x, 0, k, k), k);
        }
        Checks.due("11: 64 slots", x.length(0), 25);
        refusesSlot(x, 64);
        Checks.due("6: slot 64", Slots.sent(x, 1, 7), 64);
        refusesSlot(x, 65);
        refusesSlot(x, 0);
        Checks.due("11: the oldest of 64", x.length(1), 25);
        Checks.due("11: the latest of 64", x.length(64), 24);
        Checks.due("12: its bytes are its own", x.air(64, 0), 1);
        x.lose(30);
        refusesSlot(x, 30);
        Checks.due("8: deliver", x.deliver(1), 2);
        Checks.due("8: deliver", x.deliver(3), 2);
        Checks.due("7: a request is a slot too", x.ask(), 65);
        refusesSlot(x, 1);
        Checks.due("11: thrown away ones count among the 64", x.length(2), 25);
        Checks.due("21: slots", x.total(1), 66);
    }

    private static void lose() {
        QuakeLink x = new QuakeLink();
        Slots.sent(x, 0, 1);
        Slots.sent(x, 0, 2);
        x.lose(0);
        refusesSlot(x, 0);
        Checks.due("10: the other one is there", x.deliver(1), 1);
        Checks.due("10: slots were made", x.total(1), 2);
        Checks.due("10: the next slot", Slots.sent(x, 0, 3), 2);
    }

    private static void bytes() {
        QuakeLink x = new QuakeLink();
        Slots.sent(x, 3, -1);
        Checks.due("12: byte 0", x.air(0, 0), 3);
        Checks.due("12: a byte is 0 .. 255", x.air(0, 12), 255);
        Checks.noSuch("12: byte -1", () -> x.air(0, -1));
        Checks.noSuch("12: byte 24", () -> x.air(0, 24));
        Checks.noSuch("12: a byte far away", () -> x.air(0, 512));
        Checks.noSuch("12: the least byte", () -> x.air(0, Integer.MIN_VALUE));
        Checks.noSuch("13: byte -1", () -> x.spoil(0, -1, 1));
        Checks.noSuch("13: byte 24", () -> x.spoil(0, 24, 1));
        Checks.due("8: nothing was spoiled", x.deliver(0), 1);
    }

    private static void spoil() {
        QuakeLink x = new QuakeLink();
        Slots.sent(x, 0, 0);
        x.spoil(0, 23, 0);
        x.spoil(0, 23, 0x100);
        Checks.due("13: the lowest eight bits alone", x.deliver(0), 1);
        int check = x.air(0, 23);
        x.spoil(0, 23, -1);
        Checks.due("13: xor", x.air(0, 23), check ^ 255);
        Checks.due("8: the check is wrong", x.deliver(0), QuakeLink.NONE);
        x.spoil(0, 23, 0x5aff);
        Checks.due("13: xor again", x.air(0, 23), check);
        Checks.due("8: right again", x.deliver(0), 0);
        for (int i = 0; i < 24; i++) {
            x.spoil(0, i, 128);
            Checks.due("8: byte " + i + " is under the check", x.deliver(0), QuakeLink.NONE);
            x.spoil(0, i, 128);
        }
        Checks.due("21: rejected", x.total(2), 25);
        spoiledIsTheSlotAlone();
    }

    private static void spoiledIsTheSlotAlone() {
        QuakeLink x = new QuakeLink();
        x.deliver(Slots.sent(x, 0, 1));
        Slots.sent(x, 0, 2);
        x.deliver(Slots.sent(x, 0, 3));
        x.spoil(1, 12, 1);
        x.hear(x.ask());
        int slot = x.turn();
        Checks.due("13: the packet in the ring is whole", x.deliver(slot), 1);
        Checks.due("16: its value", x.at(0, 1), 2);
    }

    private static void mend() {
        QuakeLink x = new QuakeLink();
        int slot = Slots.sent(x, 1, 5, 6);
        String sent = Slots.hex(x, slot);
        for (int i = 0; i < 4; i++) {
            x.spoil(slot, x.length(slot) - 1 - i, 77 + i);
        }
        x.mend(slot);
        Checks.due("14: as it was", Slots.hex(x, slot), sent);
        x.spoil(slot, 1, 1);
        x.mend(slot);
        Checks.due("14: the check of those before", Slots.hex(x, slot),
                Slots.checked("0165" + sent.substring(4, sent.length() - 8)));
        x.spoil(slot, 1, 1);
        x.mend(slot);
        Checks.due("14: heard", x.deliver(slot), 2);
    }

    /** The centre has 0 and 4 of channel 2, and the request for 1 .. 3 is slot 3. */
    private static QuakeLink withRequest() {
        QuakeLink x = new QuakeLink();
        x.deliver(Slots.sent(x, 2, 1));
        Slots.sent(x, 2, 2, 3, 4);
        x.deliver(Slots.sent(x, 2, 5));
        Checks.due("7: request", x.ask(), 3);
        return x;
    }

    private static void hear() {
        QuakeLink x = withRequest();
        Checks.due("7: bytes", Slots.hex(x, 3), Slots.checked("02000000" + "00000001" + "00000003"));
        Checks.due("9: asked", x.hear(3), 3);
        Checks.due("9: asked before", x.hear(3), 0);
        Checks.due("20: asked", x.count(2, 4), 3);
        Slots.forgeFour(x, 3, 4, 0);
        Checks.due("9: one more", x.hear(3), 1);
        Checks.due("21: none bad", x.total(4), 0);
        Slots.forgeFour(x, 3, 4, 4);
        Slots.forgeFour(x, 3, 8, 4);
        Checks.due("9: from is to", x.hear(3), 1);
        Slots.forge(x, 3, 0, 0);
        Checks.due("9: a channel without samples", x.hear(3), 0);
        Checks.due("20: asked", x.count(2, 4), 5);
        Checks.due("8: a request is no message", x.deliver(3), QuakeLink.NONE);
        Checks.due("21: rejected", x.total(2), 1);
    }

    private static void hearBad() {
        QuakeLink x = withRequest();
        Checks.due("9: a message is no request", x.hear(0), QuakeLink.NONE);
        for (int i = 0; i < 16; i++) {
            x.spoil(3, i, 1);
            Checks.due("9: byte " + i + " is under the check", x.hear(3), QuakeLink.NONE);
            x.spoil(3, i, 1);
        }
        Checks.due("21: bad", x.total(4), 17);
        Slots.forge(x, 3, 0, 4);
        Checks.due("9: no channel", x.hear(3), QuakeLink.NONE);
        Slots.forge(x, 3, 0, 255);
        Checks.due("9: no channel", x.hear(3), QuakeLink.NONE);
        Slots.forge(x, 3, 0, 2);
        for (int i = 1; i < 4; i++) {
            Slots.forge(x, 3, i, 128);
            Checks.due("9: byte " + i + " is no 0", x.hear(3), QuakeLink.NONE);
            Slots.forge(x, 3, i, 0);
        }
        Slots.forgeFour(x, 3, 4, 4);
        Checks.due("9: from above to", x.hear(3), QuakeLink.NONE);
        Checks.due("21: bad", x.total(4), 23);
        Checks.due("20: none asked", x.count(2, 4), 0);
    }

    private static void hearBounds() {
        QuakeLink x = withRequest();
        Slots.forgeFour(x, 3, 4, 0x80000000);
        Checks.due("9: four bytes have no sign", x.hear(3), QuakeLink.NONE);
        Slots.forgeFour(x, 3, 8, -1);
        Checks.due("9: far beyond all", x.hear(3), 0);
        Slots.forgeFour(x, 3, 4, 5);
        Checks.due("9: just beyond all", x.hear(3), 0);
        Slots.forgeFour(x, 3, 4, 3);
        Checks.due("9: the last two", x.hear(3), 2);
        Slots.forgeFour(x, 3, 4, 0);
        Checks.due("9: all", x.hear(3), 3);
        Checks.due("21: bad", x.total(4), 1);
    }

    private static void hearOpen() {
        QuakeLink x = withRequest();
        x.samples(2, 3, 0, 0, 0);
        Slots.forgeFour(x, 3, 8, 100);
        Checks.due("9: not those of an open packet", x.hear(3), 4);
        x.flush(2);
        Checks.due("9: closed now", x.hear(3), 3);
        for (int k = 0; k < 40; k++) {
            x.sample(2, k);
            x.flush(2);
        }
        Slots.forgeFour(x, 3, 4, 0);
        Checks.due("9: also those that the ring has no more", x.hear(3), 41);
        Checks.due("20: asked", x.count(2, 4), 48);
    }
}
