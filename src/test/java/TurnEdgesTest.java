/** The boundary cases of the station's turns and of what it hears: a test of its own for each sentence. */
public final class TurnEdgesTest {
    public static void main(String[] args) {
        nothingIsSent();
        nothingWasSentEver();
        someWaitAndNoneAskedFor();
        sentLastBecauseItWaited();
        sentLastBecauseAskedFor();
        sentLastWasEmpty();
        turnThatSentNothing();
        firstClosedFirst();
        waitsInEachChannel();
        waitsWhileInItsRing();
        leastAskedNumber();
        thenLeastChannel();
        askedNumberAndOldest();
        allBelowOldestAskedForNoMore();
        askedForNumber0();
        emptyMessage();
        emptyMessageInARowUsedAgain();
        packetThatHasTheNumber();
        itsNumbersAskedForNoMore();
        itMayWaitStill();
        sentBecauseItWaitedAskedForStill();
        badIfNot16Bytes();
        badIfAnyBitIsWrong();
        badIfNoChannel();
        badIfNoZeros();
        badIfFromAboveTo();
        askedInClosedPackets();
        askedOutOfTheRing();
        askedUpToTheLastNumber();
        notAskedForBefore();
        Checks.end();
    }

    private static void close(QuakeLink x, int channel, int n) {
        x.samples(channel, n, 0, 0, 0);
        x.flush(channel);
    }

    /** Packets of n samples each come to channel 0 and are sent. */
    private static void sendPackets(QuakeLink x, int packets, int n) {
        for (int k = 0; k < packets; k++) {
            close(x, 0, n);
            x.turn();
        }
    }

    private static void sends(String what, QuakeLink x, int channel, int number) {
        int slot = x.turn();
        Checks.due(what + ": channel", x.air(slot, 0), channel);
        Checks.due(what + ": number", Slots.numberOf(x, slot), number);
    }

    /** "Else nothing is sent"; "NONE if nothing is" */
    private static void nothingIsSent() {
        QuakeLink x = new QuakeLink();
        Checks.due("6: nothing ever", x.turn(), QuakeLink.NONE);
        x.samples(0, 999, 0, 0, 0);
        Checks.due("6: an open packet", x.turn(), QuakeLink.NONE);
        Checks.due("21: no slot", x.total(1), 0);
        x.sample(0, 0);
        Checks.due("6: a closed one", x.turn(), 0);
        Checks.due("6: it was sent", x.turn(), QuakeLink.NONE);
        Checks.due("21: one slot", x.total(1), 1);
    }

    /** "(also if nothing was sent ever)" */
    private static void nothingWasSentEver() {
        QuakeLink x = new QuakeLink();
        x.turn();
        close(x, 2, 1);
        Checks.due("6: the first slot", x.turn(), 0);
        Checks.due("6: the packet", x.air(0, 0), 2);
    }

    /** "If some wait, and no numbers are asked for": also if what was sent last had waited. */
    private static void someWaitAndNoneAskedFor() {
        QuakeLink x = new QuakeLink();
        for (int k = 0; k < 3; k++) {
            close(x, 0, 2);
        }
        for (int k = 0; k < 3; k++) {
            sends("6: one that waits", x, 0, 2 * k);
            Checks.due("21: wait", x.total(0), 2 - k);
        }
    }

    /** Channel 0 has five packets of two samples, all of them sent; number 2 is asked for. Answers the request. */
    private static int askedFor2(QuakeLink x) {
        sendPackets(x, 5, 2);
        int request = Slots.request(x);
        Checks.due("9: asked", Slots.asked(x, request, 0, 2, 2), 1);
        return request;
    }

    private static void sentLastBecauseItWaited() {
        QuakeLink x = new QuakeLink();
        askedFor2(x);
        close(x, 1, 1);
        sends("6: what is asked for", x, 0, 2);
        Checks.due("21: waits still", x.total(0), 1);
        sends("6: what waits", x, 1, 0);
        Checks.due("6: nothing", x.turn(), QuakeLink.NONE);
    }

    /** "or what was sent last was not sent because it waited" */
    private static void sentLastBecauseAskedFor() {
        QuakeLink x = new QuakeLink();
        int request = askedFor2(x);
        sends("6: what is asked for", x, 0, 2);
        Slots.asked(x, request, 0, 4, 9);
        sends("6: none waits: what is asked for", x, 0, 4);
        close(x, 1, 1);
        close(x, 1, 1);
        sends("6: the first that waits", x, 1, 0);
        sends("6: what is asked for", x, 0, 6);
        sends("6: the next that waits", x, 1, 1);
        sends("6: what is asked for", x, 0, 8);
        Checks.due("6: nothing", x.turn(), QuakeLink.NONE);
    }

    private static void sentLastWasEmpty() {
        QuakeLink x = new QuakeLink();
        sendPackets(x, 34, 2);
        int request = Slots.request(x);
        Slots.asked(x, request, 0, 0, 4);
        close(x, 1, 1);
        Checks.due("6: an empty message", x.air(x.turn(), 3), 0);
        sends("6: what waits", x, 1, 0);
        sends("6: what is asked for", x, 0, 4);
    }

    /** A turn that sends nothing is nothing that was sent last; nor is a request, which the centre sends. */
    private static void turnThatSentNothing() {
        QuakeLink x = new QuakeLink();
        sendPackets(x, 5, 2);
        int request = Slots.request(x);
        Checks.due("6: nothing", x.turn(), QuakeLink.NONE);
        x.ask();
        Slots.asked(x, request, 0, 2, 5);
        close(x, 1, 1);
        close(x, 1, 1);
        sends("6: the last one had waited", x, 0, 2);
        sends("6: the last one was asked for", x, 1, 0);
        sends("6: the last one had waited", x, 0, 4);
        sends("6: the last one was asked for", x, 1, 1);
        Slots.asked(x, request, 0, 2, 2);
        sends("6: what is asked for", x, 0, 2);
        Checks.due("6: nothing", x.turn(), QuakeLink.NONE);
        x.ask();
        Slots.asked(x, request, 0, 2, 2);
        close(x, 1, 1);
        sends("6: the last one was asked for", x, 1, 2);
        sends("6: the last one had waited", x, 0, 2);
    }

    /** "first closed first (of all channels)": not as they were begun, nor by their channels. */
    private static void firstClosedFirst() {
        QuakeLink x = new QuakeLink();
        x.sample(0, 0);
        x.samples(1, 999, 0, 0, 0);
        x.sample(2, 0);
        x.flush(2);
        x.sample(1, 0);
        x.sample(1, 0);
        x.flush(0);
        x.flush(1);
        sends("6: first", x, 2, 0);
        sends("6: second", x, 1, 0);
        sends("6: third", x, 0, 0);
        sends("6: fourth", x, 1, 1000);
    }

    /** "packets that were closed, not sent yet": in the first channel and in the last one. */
    private static void waitsInEachChannel() {
        QuakeLink x = new QuakeLink();
        for (int channel = 0; channel < 4; channel++) {
            x.sample(channel, 0);
            Checks.due("21: open", x.total(0), channel);
            x.flush(channel);
            Checks.due("21: closed", x.total(0), channel + 1);
        }
        for (int channel = 0; channel < 4; channel++) {
            sends("6: channel " + channel, x, channel, 0);
            Checks.due("21: sent", x.total(0), 3 - channel);
        }
    }

    /** "closed, not sent yet, and are in their ring WAIT" */
    private static void waitsWhileInItsRing() {
        QuakeLink x = new QuakeLink();
        close(x, 1, 1);
        for (int k = 0; k < 32; k++) {
            close(x, 0, 1);
        }
        close(x, 2, 1);
        Checks.due("21: all wait", x.total(0), 34);
        sends("6: the first of all", x, 1, 0);
        close(x, 0, 1);
        Checks.due("21: number 0 waits no more", x.total(0), 33);
        sends("6: number 1", x, 0, 1);
        close(x, 0, 1);
        Checks.due("21: number 1 had been sent", x.total(0), 33);
        sends("6: number 2", x, 0, 2);
        for (int k = 3; k < 32; k++) {
            x.turn();
        }
        sends("6: the other channel", x, 2, 0);
        sends("6: closed behind it", x, 0, 32);
        sends("6: the last", x, 0, 33);
        Checks.due("21: none waits", x.total(0), 0);
    }

    /** "the one with the least asked number a" */
    private static void leastAskedNumber() {
        QuakeLink x = new QuakeLink();
        for (int channel = 0; channel < 3; channel++) {
            close(x, channel, 5);
            close(x, channel, 5);
            x.turn();
            x.turn();
        }
        int request = Slots.request(x);
        Slots.asked(x, request, 0, 6, 6);
        Slots.asked(x, request, 1, 7, 9);
        Slots.asked(x, request, 2, 5, 9);
        sends("6: 5", x, 2, 5);
        sends("6: 6", x, 0, 5);
        sends("6: 7", x, 1, 5);
        Checks.due("6: nothing", x.turn(), QuakeLink.NONE);
    }

    /** "(then the least channel)" */
    private static void thenLeastChannel() {
        QuakeLink x = new QuakeLink();
        for (int channel = 3; channel >= 0; channel--) {
            close(x, channel, 4);
            x.turn();
        }
        int request = Slots.request(x);
        for (int channel = 3; channel >= 0; channel--) {
            Slots.asked(x, request, channel, 2, 2 + channel % 2);
        }
        for (int channel = 0; channel < 4; channel++) {
            sends("6: channel " + channel, x, channel, 0);
        }
    }

    /** "if a is below OLDEST an empty message is sent ..; else the packet of the ring that has a" */
    private static void askedNumberAndOldest() {
        QuakeLink x = new QuakeLink();
        sendPackets(x, 33, 2);
        Checks.due("20: OLDEST", x.count(0, 1), 2);
        int request = Slots.request(x);
        Slots.asked(x, request, 0, 1, 1);
        Checks.due("6: below OLDEST: empty", x.air(x.turn(), 3), 0);
        Slots.asked(x, request, 0, 2, 2);
        int slot = x.turn();
        Checks.due("6: OLDEST itself: a packet", x.air(slot, 3), 2);
        Checks.due("6: OLDEST itself: number", Slots.numberOf(x, slot), 2);
        Slots.asked(x, request, 0, 3, 3);
        sends("6: above OLDEST", x, 0, 2);
        Checks.due("6: nothing", x.turn(), QuakeLink.NONE);
    }

    /** "all asked numbers of the channel below OLDEST are asked for no more" */
    private static void allBelowOldestAskedForNoMore() {
        QuakeLink x = new QuakeLink();
        close(x, 1, 40);
        x.turn();
        sendPackets(x, 34, 20);
        Checks.due("20: OLDEST", x.count(0, 1), 40);
        int request = Slots.request(x);
        Slots.asked(x, request, 1, 35, 36);
        Checks.due("9: asked", Slots.asked(x, request, 0, 0, 40), 41);
        Checks.due("6: empty", x.air(x.turn(), 3), 0);
        Checks.due("20: OLDEST itself is asked for", x.count(0, 4), 1);
        Checks.due("20: the other channel's are", x.count(1, 4), 2);
        sends("6: 35 of the other channel", x, 1, 0);
        sends("6: 40", x, 0, 40);
        Checks.due("20: none is asked for", x.count(0, 4) + x.count(1, 4), 0);
    }

    /** The least number that can be asked for: in the ring, and below OLDEST. */
    private static void askedForNumber0() {
        QuakeLink x = new QuakeLink();
        sendPackets(x, 32, 2);
        int request = Slots.request(x);
        Checks.due("9: asked", Slots.asked(x, request, 0, 0, 0), 1);
        int slot = x.turn();
        Checks.due("6: a packet", x.air(slot, 3), 2);
        Checks.due("6: its number", Slots.numberOf(x, slot), 0);
        Checks.due("20: asked for no more", x.count(0, 4), 0);
        sendPackets(x, 1, 2);
        Checks.due("9: asked", Slots.asked(x, request, 0, 0, 0), 1);
        Checks.due("6: empty", x.air(x.turn(), 3), 0);
        Checks.due("20: asked for no more", x.count(0, 4), 0);
        Checks.due("6: nothing", x.turn(), QuakeLink.NONE);
    }

    /** "An EMPTY message has n = 0, quality 0, no sample at all (number and values are 0) and so 24 bytes." */
    private static void emptyMessage() {
        QuakeLink x = new QuakeLink();
        for (int k = 0; k < 35; k++) {
            x.samples(2, 100, -1, -1, -1);
            x.flush(2);
            x.turn();
        }
        int request = Slots.request(x);
        Slots.asked(x, request, 2, 299, 299);
        Checks.due("6: bytes", Slots.hex(x, x.turn()),
                Slots.checked("02000000" + "0000012c" + "00000000" + "00000000" + "00000000"));
    }

    /** A message whose bytes are no 0s was in the same place, 64 slots before. */
    private static void emptyMessageInARowUsedAgain() {
        QuakeLink x = new QuakeLink();
        for (int k = 0; k < 70; k++) {
            x.samples(2, 257, -1 - k, 0, 0);
            x.flush(2);
            x.turn();
        }
        int request = Slots.request(x);
        Slots.asked(x, request, 2, 0, 0);
        int oldest = 38 * 257;
        int slot = x.turn();
        Checks.due("6: slot", slot, 72);
        Checks.due("6: bytes", Slots.hex(x, slot), Slots.checked(String.format("02000000%08x%024x", oldest, 0)));
    }

    /** Its first number, its last one, and those of its neighbours. */
    private static void packetThatHasTheNumber() {
        int[] numbers = {2, 3, 4, 5, 6};
        int[] packets = {0, 3, 3, 3, 6};
        for (int k = 0; k < numbers.length; k++) {
            QuakeLink x = new QuakeLink();
            sendPackets(x, 4, 3);
            int request = Slots.request(x);
            Checks.due("9: asked", Slots.asked(x, request, 0, numbers[k], numbers[k]), 1);
            sends("6: packet of " + numbers[k], x, 0, packets[k]);
            Checks.due("6: nothing", x.turn(), QuakeLink.NONE);
        }
    }

    /** "and its numbers are asked for no more": all of them, and no others. */
    private static void itsNumbersAskedForNoMore() {
        QuakeLink x = new QuakeLink();
        sendPackets(x, 4, 3);
        int request = Slots.request(x);
        Checks.due("9: asked", Slots.asked(x, request, 0, 2, 9), 8);
        int[] left = {7, 4, 1, 0};
        for (int k = 0; k < 4; k++) {
            sends("6: packet " + k, x, 0, 3 * k);
            Checks.due("20: asked for still", x.count(0, 4), left[k]);
        }
        Checks.due("6: nothing", x.turn(), QuakeLink.NONE);
    }

    /** "(it may wait still)": the first one that waits, and one behind it. */
    private static void itMayWaitStill() {
        for (int number = 0; number <= 2; number += 2) {
            QuakeLink x = new QuakeLink();
            int request = Slots.request(x);
            close(x, 0, 2);
            close(x, 0, 2);
            Slots.asked(x, request, 0, number, number);
            sends("6: asked for", x, 0, number);
            Checks.due("21: both wait", x.total(0), 2);
            Checks.due("20: asked for no more", x.count(0, 4), 0);
            sends("6: waits", x, 0, 0);
            sends("6: waits", x, 0, 2);
            Checks.due("6: nothing", x.turn(), QuakeLink.NONE);
        }
    }

    private static void sentBecauseItWaitedAskedForStill() {
        QuakeLink x = new QuakeLink();
        int request = askedFor2(x);
        x.turn();
        close(x, 0, 2);
        Checks.due("9: asked", Slots.asked(x, request, 0, 10, 11), 2);
        sends("6: waits", x, 0, 10);
        Checks.due("20: asked for still", x.count(0, 4), 2);
        sends("6: asked for", x, 0, 10);
        Checks.due("20: asked for no more", x.count(0, 4), 0);
    }

    private static void isBad(String why, QuakeLink x, int answer, int bad) {
        Checks.due("9: " + why, answer, QuakeLink.NONE);
        Checks.due("21: bad, " + why, x.total(4), bad);
    }

    /** "if it is no message of 16 bytes" */
    private static void badIfNot16Bytes() {
        QuakeLink x = new QuakeLink();
        Slots.sent(x, 0, 1);
        isBad("24 bytes", x, x.hear(0), 1);
        // The bytes of a request, with a right check, in a message of 24 and of 25 bytes.
        Slots.forgeHex(x, 0, 0, "00000000" + "00000000" + "00000000");
        isBad("a request in 24 bytes", x, x.hear(0), 2);
        Slots.sent(x, 0, 1, 1);
        Slots.forgeHex(x, 1, 0, "00000000" + "00000000" + "00000000");
        isBad("a request in 25 bytes", x, x.hear(1), 3);
        Slots.forgeHex(x, 0, 12, Slots.checked("000000000000000000000000").substring(24));
        isBad("a request and its check in 24 bytes", x, x.hear(0), 4);
        Checks.due("9: 16 bytes", Slots.asked(x, Slots.request(x), 0, 0, 0), 1);
        Checks.due("21: no more bad ones", x.total(4), 4);
    }

    /** "with a right check" */
    private static void badIfAnyBitIsWrong() {
        QuakeLink x = new QuakeLink();
        int request = Slots.request(x);
        for (int i = 0; i < 16; i++) {
            for (int bit = 1; bit < 256; bit *= 2) {
                x.spoil(request, i, bit);
                Checks.due("9: bit " + bit + " of byte " + i, x.hear(request), QuakeLink.NONE);
                x.spoil(request, i, bit);
            }
        }
        Checks.due("21: bad", x.total(4), 128);
        Checks.due("9: right again", x.hear(request), 0);
    }

    /** "a channel" */
    private static void badIfNoChannel() {
        QuakeLink x = new QuakeLink();
        for (int channel = 0; channel < 4; channel++) {
            Slots.sent(x, channel, 0);
        }
        int request = Slots.request(x);
        for (int channel = 0; channel < 4; channel++) {
            Checks.due("9: channel " + channel, Slots.asked(x, request, channel, 0, 0), 1);
            Checks.due("20: asked in channel " + channel, x.count(channel, 4), 1);
        }
        int bad = 0;
        for (int channel : new int[] {4, 5, 127, 128, 255}) {
            bad++;
            isBad("channel " + channel, x, Slots.asked(x, request, channel, 0, 0), bad);
        }
    }

    /** "three 0s" */
    private static void badIfNoZeros() {
        QuakeLink x = new QuakeLink();
        int request = Slots.request(x);
        int bad = 0;
        for (int i = 1; i <= 3; i++) {
            for (int value : new int[] {1, 128, 255}) {
                bad++;
                Slots.forge(x, request, i, value);
                isBad(value + " in byte " + i, x, x.hear(request), bad);
            }
            Slots.forge(x, request, i, 0);
        }
        Checks.due("9: three 0s", Slots.asked(x, request, 3, 0, 0), 1);
    }

    /** "and from not above to" */
    private static void badIfFromAboveTo() {
        QuakeLink x = new QuakeLink();
        close(x, 0, 9);
        x.turn();
        int request = Slots.request(x);
        isBad("from 5 to 4", x, Slots.asked(x, request, 0, 5, 4), 1);
        isBad("from 256 to 255", x, Slots.asked(x, request, 0, 256, 255), 2);
        Checks.due("20: none asked for", x.count(0, 4), 0);
        Checks.due("9: from 5 to 5", Slots.asked(x, request, 0, 5, 5), 1);
        Checks.due("9: from 5 to 6", Slots.asked(x, request, 0, 5, 6), 1);
        // Four bytes without a sign: 80000000 is above 7fffffff, and ffffffff is the greatest.
        isBad("from 80000000 to 7fffffff", x, Slots.asked(x, request, 0, 0x80000000, 0x7fffffff), 3);
        isBad("from ffffffff to 0", x, Slots.asked(x, request, 0, -1, 0), 4);
        Checks.due("9: from ffffffff to ffffffff", Slots.asked(x, request, 0, -1, -1), 0);
        Checks.due("9: from 7fffffff to 80000000", Slots.asked(x, request, 0, 0x7fffffff, 0x80000000), 0);
        Checks.due("9: from 0 to ffffffff", Slots.asked(x, request, 0, 0, -1), 7);
        Checks.due("21: no more bad ones", x.total(4), 4);
    }

    /** "all numbers from .. to that are in closed packets": not in the open one, nor behind. */
    private static void askedInClosedPackets() {
        QuakeLink x = new QuakeLink();
        int request = Slots.request(x);
        Checks.due("9: no samples", Slots.asked(x, request, 0, 0, 9), 0);
        x.samples(0, 4, 0, 0, 0);
        Checks.due("9: an open packet alone", Slots.asked(x, request, 0, 0, 9), 0);
        x.flush(0);
        x.samples(0, 3, 0, 0, 0);
        Checks.due("9: the first open one", Slots.asked(x, request, 0, 4, 4), 0);
        Checks.due("9: the last closed one and the first open one", Slots.asked(x, request, 0, 3, 4), 1);
        Checks.due("9: up to the last closed one", Slots.asked(x, request, 0, 0, 3), 3);
        x.flush(0);
        Checks.due("9: behind all", Slots.asked(x, request, 0, 7, 7), 0);
        Checks.due("9: the last one and behind it", Slots.asked(x, request, 0, 6, 7), 1);
        Checks.due("20: asked for", x.count(0, 4), 5);
    }

    /** "(of the ring, or not)" */
    private static void askedOutOfTheRing() {
        QuakeLink x = new QuakeLink();
        sendPackets(x, 33, 2);
        int request = Slots.request(x);
        Checks.due("9: out of the ring", Slots.asked(x, request, 0, 0, 1), 2);
        Checks.due("9: the first one in the ring", Slots.asked(x, request, 0, 0, 2), 1);
        Checks.due("9: all", Slots.asked(x, request, 0, 0, 65), 63);
    }

    private static void askedUpToTheLastNumber() {
        QuakeLink x = new QuakeLink();
        for (int k = 0; k < 16; k++) {
            x.samples(0, 2000, 0, 0, 0);
        }
        x.samples(0, 768, 0, 0, 0);
        for (int k = 0; k < 32; k++) {
            x.turn();
        }
        int request = Slots.request(x);
        Checks.due("9: those of the open packet", Slots.asked(x, request, 0, 32000, 32768), 0);
        x.flush(0);
        x.turn();
        Checks.due("9: behind the last one", Slots.asked(x, request, 0, 32768, 32768), 0);
        Checks.due("9: the last one", Slots.asked(x, request, 0, 32767, 32768), 1);
        sends("6: the last packet", x, 0, 32000);
        Checks.due("20: asked for no more", x.count(0, 4), 0);
        Checks.due("9: all of them", Slots.asked(x, request, 0, 0, 32767), 32768);
        Checks.due("20: asked for", x.count(0, 4), 32768);
        Checks.due("6: empty", x.air(x.turn(), 3), 0);
        Checks.due("20: asked for", x.count(0, 4), 31768);
    }

    /** "how many numbers were not asked for before, and are now" */
    private static void notAskedForBefore() {
        QuakeLink x = new QuakeLink();
        sendPackets(x, 1, 100);
        int request = Slots.request(x);
        Checks.due("9: 31 .. 33", Slots.asked(x, request, 0, 31, 33), 3);
        Checks.due("9: heard again", x.hear(request), 0);
        Checks.due("9: and again", x.hear(request), 0);
        Checks.due("9: 30 .. 34", Slots.asked(x, request, 0, 30, 34), 2);
        Checks.due("9: 63 .. 64", Slots.asked(x, request, 0, 63, 64), 2);
        Checks.due("9: 0 .. 99", Slots.asked(x, request, 0, 0, 99), 93);
        x.turn();
        Checks.due("9: asked for no more, and now again", Slots.asked(x, request, 0, 31, 33), 3);
    }
}
