/**
 * "Methods throw what their comments name, the one named first when several would do"; "A call that throws changes
 * nothing."
 */
public final class RefusedTest {
    private static final int MIN = Integer.MIN_VALUE;
    private static final int MAX = Integer.MAX_VALUE;

    public static void main(String[] args) {
        channelBeforeLimit();
        channelThenArgumentThenLimit();
        channelBeforeWhat();
        slotAndByte();
        samplesChangesNothing();
        stationChangesNothing();
        airChangesNothing();
        nothingElseIsThrown();
        Checks.end();
    }

    /** Channel 0 has all of its 32768 samples. */
    private static QuakeLink full() {
        QuakeLink x = new QuakeLink();
        for (int k = 0; k < 16; k++) {
            x.samples(0, 2000, k, 1, 0);
        }
        x.samples(0, 768, 0, 0, 0);
        return x;
    }

    /** sample: "IndexOutOfBoundsException; IllegalStateException" */
    private static void channelBeforeLimit() {
        QuakeLink x = full();
        Checks.noState("2: full", () -> x.sample(0, 0));
        Checks.noSuch("2: no channel", () -> x.sample(4, 0));
        Checks.noSuch("2: no channel", () -> x.sample(-1, 0));
    }

    /** samples: "IndexOutOfBoundsException; IllegalArgumentException ..; IllegalStateException" */
    private static void channelThenArgumentThenLimit() {
        QuakeLink x = full();
        for (int n : new int[] {MIN, -1, 0, 2001, MAX}) {
            Checks.noSuch("3: no channel, n " + n, () -> x.samples(4, n, 0, 0, 0));
            Checks.noSuch("3: no channel, n " + n, () -> x.samples(-1, n, 0, 0, 0));
            Checks.noArgument("3: full, n " + n, () -> x.samples(0, n, 0, 0, 0));
        }
        Checks.noState("3: full, n 1", () -> x.samples(0, 1, 0, 0, 0));
        Checks.noState("3: full, n 2000", () -> x.samples(0, 2000, 0, 0, 0));
    }

    /** count: "IndexOutOfBoundsException; IllegalArgumentException" */
    private static void channelBeforeWhat() {
        QuakeLink x = new QuakeLink();
        for (int what : new int[] {MIN, -1, 7, MAX}) {
            Checks.noSuch("20: no channel, what " + what, () -> x.count(4, what));
            Checks.noSuch("20: no channel, what " + what, () -> x.count(-1, what));
            Checks.noArgument("20: what " + what, () -> x.count(0, what));
        }
    }

    private static void slotAndByte() {
        QuakeLink x = new QuakeLink();
        Checks.noSuch("12: neither", () -> x.air(0, -1));
        Checks.noSuch("13: neither", () -> x.spoil(0, 512, 1));
        Slots.sent(x, 0, 1);
        Checks.noSuch("12: no byte", () -> x.air(0, 24));
        Checks.noSuch("13: no byte", () -> x.spoil(0, 24, 1));
        Checks.noSuch("12: no slot", () -> x.air(1, 0));
        Checks.noSuch("13: no slot", () -> x.spoil(1, 0, 1));
    }

    /** What an object tells of itself, in some 150 calls. */
    private static String told(QuakeLink x) {
        StringBuilder text = new StringBuilder();
        for (int channel = 0; channel < 4; channel++) {
            for (int what = 0; what <= 6; what++) {
                text.append(x.count(channel, what)).append(' ');
            }
            text.append(x.gaps(channel)).append(' ');
        }
        for (int what = 0; what <= 4; what++) {
            text.append(x.total(what)).append(' ');
        }
        for (int number = 0; number < 6; number++) {
            text.append(x.at(0, number)).append(' ').append(x.qualityAt(0, number)).append(' ');
        }
        for (int slot = 0; slot < x.total(1); slot++) {
            if (slot != 2) {
                text.append(Slots.hex(x, slot)).append(' ');
            }
        }
        return text.toString();
    }

    /** Of each kind of state something: an open packet, a waiting one, a lost slot, a gap, asked numbers. */
    private static QuakeLink used() {
        QuakeLink x = new QuakeLink();
        x.quality(30);
        x.deliver(Slots.sent(x, 0, 1, 2));
        Slots.sent(x, 0, 3, 4);
        x.lose(Slots.sent(x, 1, 9));
        x.deliver(Slots.sent(x, 0, 5));
        x.hear(x.ask());
        x.samples(2, 20, 7, 3, 1);
        x.flush(2);
        x.samples(0, 10, -7, 3, 1);
        return x;
    }

    /** The same calls go on, on an object that refused some and on one that did not. */
    private static String goingOn(QuakeLink x) {
        StringBuilder text = new StringBuilder();
        for (int k = 0; k < 3; k++) {
            text.append(x.samples(0, 8, k, k, k)).append(' ').append(x.flush(0)).append(' ');
            int slot = x.turn();
            text.append(Slots.hex(x, slot)).append(' ').append(x.deliver(slot)).append(' ');
        }
        return text.append(x.total(0)).append(' ').append(x.count(0, 4)).toString();
    }

    private static void changesNothing(String what, Checks.Call refused) {
        Checks.due(what + " is refused", Checks.thrownBy(refused).equals("nothing"), false);
    }

    /** samples takes none at all where it could take some. */
    private static void samplesChangesNothing() {
        QuakeLink x = new QuakeLink();
        for (int k = 0; k < 16; k++) {
            x.samples(0, 2000, 0, 0, 0);
        }
        x.samples(0, 700, 0, 0, 0);
        Checks.noState("3: 69 for 68", () -> x.samples(0, 69, 1, 1, 1));
        Checks.due("20: taken", x.count(0, 0), 32700);
        Checks.due("20: open", x.count(0, 3), 700);
        Checks.due("20: ring", x.count(0, 2), 32);
        Checks.due("21: wait", x.total(0), 32);
        Checks.due("3: 68", x.samples(0, 68, 1, 1, 1), 32700);
    }

    private static void stationChangesNothing() {
        QuakeLink x = used();
        String before = told(x);
        for (int channel : new int[] {MIN, -1, 4, MAX}) {
            changesNothing("2: sample", () -> x.sample(channel, 1));
            changesNothing("3: samples", () -> x.samples(channel, 5, 1, 1, 1));
            changesNothing("5: flush", () -> x.flush(channel));
            changesNothing("15: has", () -> x.has(channel, 0));
            changesNothing("16: at", () -> x.at(channel, 0));
            changesNothing("17: qualityAt", () -> x.qualityAt(channel, 0));
            changesNothing("18: gaps", () -> x.gaps(channel));
            changesNothing("19: gap", () -> x.gap(channel, 0, true));
            changesNothing("20: count", () -> x.count(channel, 0));
        }
        changesNothing("3: no samples", () -> x.samples(0, 0, 1, 1, 1));
        changesNothing("3: too many samples", () -> x.samples(0, 2001, 1, 1, 1));
        changesNothing("4: quality", () -> x.quality(-1));
        changesNothing("4: quality", () -> x.quality(101));
        changesNothing("19: gap", () -> x.gap(0, 1, false));
        changesNothing("19: gap", () -> x.gap(0, -1, false));
        changesNothing("20: count", () -> x.count(0, 7));
        changesNothing("21: total", () -> x.total(5));
        Checks.due("what the object tells", told(x), before);
        QuakeLink y = used();
        for (int channel : new int[] {-1, 4}) {
            changesNothing("2: sample", () -> y.sample(channel, 1));
            changesNothing("3: samples", () -> y.samples(channel, 5, 1, 1, 1));
            changesNothing("5: flush", () -> y.flush(channel));
        }
        changesNothing("3: too many samples", () -> y.samples(0, 2001, 1, 1, 1));
        changesNothing("4: quality", () -> y.quality(101));
        Checks.due("how it goes on", goingOn(y), goingOn(used()));
    }

    private static void airChangesNothing() {
        QuakeLink x = used();
        String before = told(x);
        refuseSlots(x);
        Checks.due("what the object tells", told(x), before);
        QuakeLink y = used();
        refuseSlots(y);
        Checks.due("how it goes on", goingOn(y), goingOn(used()));
    }

    /** Slot 2 was lost, slot 5 is not made yet. */
    private static void refuseSlots(QuakeLink x) {
        for (int slot : new int[] {MIN, -1, 2, 5, MAX}) {
            changesNothing("8: deliver", () -> x.deliver(slot));
            changesNothing("9: hear", () -> x.hear(slot));
            changesNothing("10: lose", () -> x.lose(slot));
            changesNothing("11: length", () -> x.length(slot));
            changesNothing("12: air", () -> x.air(slot, 0));
            changesNothing("13: spoil", () -> x.spoil(slot, 0, 1));
            changesNothing("14: mend", () -> x.mend(slot));
        }
        for (int i : new int[] {MIN, -1, 28, MAX}) {
            changesNothing("12: air", () -> x.air(0, i));
            changesNothing("13: spoil", () -> x.spoil(0, i, 1));
        }
    }

    /** All that takes any int, with the least and the greatest: only what the document names is thrown. */
    private static void nothingElseIsThrown() {
        QuakeLink x = used();
        for (int value : new int[] {MIN, -1, 0, 1, MAX}) {
            Checks.due("2: value " + value, Checks.thrownBy(() -> x.sample(3, value)), "nothing");
            Checks.due("3: value " + value, Checks.thrownBy(() -> x.samples(3, 2, value, value, value)), "nothing");
            Checks.due("13: mask " + value, Checks.thrownBy(() -> x.spoil(0, 0, value)), "nothing");
            Checks.due("15: number " + value, Checks.thrownBy(() -> x.has(0, value)), "nothing");
            Checks.due("16: number " + value, Checks.thrownBy(() -> x.at(0, value)), "nothing");
            Checks.due("17: number " + value, Checks.thrownBy(() -> x.qualityAt(0, value)), "nothing");
        }
    }
}
