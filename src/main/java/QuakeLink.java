/**
 * A station that codes samples into checked packets, an air that loses, repeats and spoils them, and a centre
 * that keeps what it heard and asks for its gaps.
 */
public final class QuakeLink {
    public static final int NONE = -1;

    private static final int CLASH = -2;
    private static final int CHANNELS = 4;
    private static final int LIMIT = 32768;
    private static final int MOST_AT_ONCE = 2000;
    private static final int MOST_IN_PACKET = 1000;
    private static final int RING = 32;
    private static final int SLOTS = 64;
    private static final int BEST_QUALITY = 100;

    private static final int LONGEST = 512;
    private static final int CHECK_BYTES = 4;
    private static final int REQUEST_BYTES = 16;
    private static final int EMPTY_BYTES = 24;

    // Where the parts of a message begin.
    private static final int CHANNEL_AT = 0;
    private static final int QUALITY_AT = 1;
    private static final int HELD_AT = 2;
    private static final int OLDEST_AT = 4;
    private static final int NUMBER_AT = 8;
    private static final int FIRST_AT = 12;
    private static final int LAST_AT = 16;
    private static final int DIFFERENCES_AT = 20;

    // Where the parts of a request begin, behind its channel.
    private static final int ZEROS_AT = 1;
    private static final int FROM_AT = 4;
    private static final int TO_AT = 8;

    private static final int BLOCK = 15;
    private static final int CODE_BITS = 4;
    private static final int LAST_CODE = 9;
    private static final int[] WIDTHS = {0, 4, 6, 8, 10, 12, 16, 20, 24, 32};

    // What four steps of the check's register do to its lowest four bits: eight single steps a byte would be
    // four times as dear.
    private static final int[] CHECK_STEPS = {
        0x00000000, 0x1DB71064, 0x3B6E20C8, 0x26D930AC, 0x76DC4190, 0x6B6B51F4, 0x4DB26158, 0x5005713C,
        0xEDB88320, 0xF00F9344, 0xD6D6A3E8, 0xCB61B38C, 0x9B64C2B0, 0x86D3D2D4, 0xA00AE278, 0xBDBDF21C
    };

    private static final int PAGE = 1024;

    private final Station station = new Station();
    private final Air slots = new Air();
    private final Centre centre = new Centre();

    public QuakeLink() {
    }

    public int sample(int channel, int value) throws IndexOutOfBoundsException, IllegalStateException {
        Channel taker = channelOf(channel);
        refuseBeyondLimit(taker, 1);
        int number = taker.taken;
        station.take(taker, value);
        return number;
    }

    public int samples(int channel, int n, int value, int step, int turn)
            throws IndexOutOfBoundsException, IllegalArgumentException, IllegalStateException {
        Channel taker = channelOf(channel);
        if (n < 1 || n > MOST_AT_ONCE) {
            throw new IllegalArgumentException("n is not 1 .. 2000");
        }
        refuseBeyondLimit(taker, n);
        int number = taker.taken;
        int next = value;
        int growth = step;
        for (int k = 0; k < n; k++) {
            station.take(taker, next);
            next += growth;
            growth += turn;
        }
        return number;
    }

    public void quality(int percent) throws IllegalArgumentException {
        if (percent < 0 || percent > BEST_QUALITY) {
            throw new IllegalArgumentException("the quality is not 0 .. 100");
        }
        station.percent = percent;
    }

    public int flush(int channel) throws IndexOutOfBoundsException {
        Channel taker = channelOf(channel);
        int held = taker.inOpen();
        if (held > 0) {
            station.close(taker);
        }
        return held;
    }

    public int turn() {
        return station.sendNext(slots) ? slots.latest() : NONE;
    }

    public int ask() {
        return centre.sendRequest(slots) ? slots.latest() : NONE;
    }

    public int deliver(int slot) throws IndexOutOfBoundsException {
        return centre.receive(messageOf(slot));
    }

    public int hear(int slot) throws IndexOutOfBoundsException {
        return station.receive(messageOf(slot));
    }

    public void lose(int slot) throws IndexOutOfBoundsException {
        messageOf(slot).size = 0;
    }

    public int length(int slot) throws IndexOutOfBoundsException {
        return messageOf(slot).size;
    }

    public int air(int slot, int i) throws IndexOutOfBoundsException {
        return messageWithByte(slot, i).row[i] & 255;
    }

    public void spoil(int slot, int i, int mask) throws IndexOutOfBoundsException {
        Message message = messageWithByte(slot, i);
        message.row[i] = (byte) (message.row[i] ^ mask);
    }

    public void mend(int slot) throws IndexOutOfBoundsException {
        messageOf(slot).seal();
    }

    public boolean has(int channel, int number) throws IndexOutOfBoundsException {
        return trackOf(channel).had.contains(number);
    }

    public int at(int channel, int number) throws IndexOutOfBoundsException {
        return trackOf(channel).valueOf(number);
    }

    public int qualityAt(int channel, int number) throws IndexOutOfBoundsException {
        return trackOf(channel).qualityOf(number);
    }

    public int gaps(int channel) throws IndexOutOfBoundsException {
        return trackOf(channel).howManyGaps();
    }

    public int gap(int channel, int i, boolean last) throws IndexOutOfBoundsException {
        Track track = trackOf(channel);
        int first = track.startOfGap(i);
        if (first == LIMIT) {
            throw new IndexOutOfBoundsException("no such gap");
        }
        return last ? track.endOfGap(first) : first;
    }

    public int count(int channel, int what) throws IndexOutOfBoundsException, IllegalArgumentException {
        Channel taker = channelOf(channel);
        Track track = trackOf(channel);
        switch (what) {
            case 0:
                return taker.taken;
            case 1:
                return taker.oldest();
            case 2:
                return taker.inRing();
            case 3:
                return taker.inOpen();
            case 4:
                return taker.asked.size;
            case 5:
                return track.had.size;
            case 6:
                return track.oldest;
            default:
                throw new IllegalArgumentException("what is not 0 .. 6");
        }
    }

    public int total(int what) throws IllegalArgumentException {
        switch (what) {
            case 0:
                return station.howManyWait();
            case 1:
                return slots.made;
            case 2:
                return centre.rejected;
            case 3:
                return centre.clashed;
            case 4:
                return station.bad;
            default:
                throw new IllegalArgumentException("what is not 0 .. 4");
        }
    }

    private static void refuseBeyondLimit(Channel taker, int more) {
        if (taker.taken + more > LIMIT) {
            throw new IllegalStateException("more than 32768 samples");
        }
    }

    private static boolean isChannel(long channel) {
        return channel >= 0 && channel < CHANNELS;
    }

    private Channel channelOf(int channel) {
        if (!isChannel(channel)) {
            throw new IndexOutOfBoundsException("no such channel");
        }
        return station.channels[channel];
    }

    private Track trackOf(int channel) {
        if (!isChannel(channel)) {
            throw new IndexOutOfBoundsException("no such channel");
        }
        return centre.tracks[channel];
    }

    private Message messageOf(int slot) {
        Message message = slots.find(slot);
        if (message == null) {
            throw new IndexOutOfBoundsException("no such slot");
        }
        return message;
    }

    private Message messageWithByte(int slot, int i) {
        Message message = messageOf(slot);
        if (i < 0 || i >= message.size) {
            throw new IndexOutOfBoundsException("no such byte");
        }
        return message;
    }

    /** A set of sample numbers, a bit each, so that long rows of them are taken a word at a time. */
    private static final class NumberSet {
        private final int[] words = new int[LIMIT / 32];
        int size;

        boolean contains(int number) {
            return number >= 0 && number < LIMIT && (words[number >> 5] >>> (number & 31) & 1) == 1;
        }

        /** Answers how many of from .. to were not in the set before. */
        int include(int from, int to) {
            int before = size;
            int end = Math.min(to, LIMIT - 1);
            int start = Math.max(from, 0);
            for (int i = start >> 5; i <= end >> 5; i++) {
                int fresh = bitsOfWord(i, start, end) & ~words[i];
                words[i] |= fresh;
                size += Integer.bitCount(fresh);
            }
            return size - before;
        }

        void exclude(int from, int to) {
            int end = Math.min(to, LIMIT - 1);
            int start = Math.max(from, 0);
            for (int i = start >> 5; i <= end >> 5; i++) {
                int gone = bitsOfWord(i, start, end) & words[i];
                words[i] &= ~gone;
                size -= Integer.bitCount(gone);
            }
        }

        /** The least number from the given one on that is in the set (or is not); LIMIT without one. */
        int next(int from, boolean in) {
            int start = Math.max(from, 0);
            int wanted = -1 << (start & 31);
            for (int i = start >> 5; i < words.length; i++) {
                int found = (in ? words[i] : ~words[i]) & wanted;
                if (found != 0) {
                    return i * 32 + Integer.bitCount((found & -found) - 1);
                }
                wanted = -1;
            }
            return LIMIT;
        }

        /** Those bits of word i whose numbers are in start .. end. */
        private static int bitsOfWord(int i, int start, int end) {
            int low = Math.max(start - i * 32, 0);
            int high = Math.min(end - i * 32, 31);
            return low > high ? 0 : (-1 << low) & (-1 >>> (31 - high));
        }
    }

    /** The bytes of a message or request; its size is 0 once it has been thrown away. */
    private static final class Message {
        final byte[] row = new byte[LONGEST];
        int size;

        void put(int at, int bytes, int value) {
            for (int k = 0; k < bytes; k++) {
                row[at + k] = (byte) (value >>> (8 * (bytes - 1 - k)));
            }
        }

        /** A long, since four bytes that are no sample's value have no sign. */
        long number(int at, int bytes) {
            long number = 0;
            for (int k = 0; k < bytes; k++) {
                number = (number << 8) | (row[at + k] & 255);
            }
            return number;
        }

        int value(int at) {
            return (int) number(at, 4);
        }

        /** Only for a message of the same size. */
        void copy(Message other) {
            System.arraycopy(other.row, 0, row, 0, other.size);
        }

        void seal() {
            put(size - CHECK_BYTES, CHECK_BYTES, check());
        }

        boolean isSealed() {
            return value(size - CHECK_BYTES) == check();
        }

        private int check() {
            int register = -1;
            for (int i = 0; i < size - CHECK_BYTES; i++) {
                register ^= row[i] & 255;
                register = (register >>> 4) ^ CHECK_STEPS[register & 15];
                register = (register >>> 4) ^ CHECK_STEPS[register & 15];
            }
            return ~register;
        }
    }

    /** The latest messages; each place is made when it is first needed and used again later. */
    private static final class Air {
        private final Message[] places = new Message[SLOTS];
        int made;

        Message add(int size) {
            int place = Math.floorMod(made, SLOTS);
            if (places[place] == null) {
                places[place] = new Message();
            }
            made++;
            places[place].size = size;
            return places[place];
        }

        int latest() {
            return made - 1;
        }

        /** Null if the slot is gone or not made yet. */
        Message find(int slot) {
            if (slot < 0 || slot >= made || slot < made - SLOTS) {
                return null;
            }
            Message message = places[slot % SLOTS];
            return message == null || message.size == 0 ? null : message;
        }
    }

    /** A packet of the station, coded block by block while its samples come. */
    private static final class Packet {
        final Message message = new Message();
        int first;
        int held;
        int order;
        private final int[] block = new int[BLOCK];
        private int inBlock;
        private int code;
        private int bits;
        private int last;
        private int step;

        void begin(int channel, int number, int value) {
            first = number;
            held = 1;
            inBlock = 0;
            code = 0;
            bits = 0;
            last = value;
            step = 0;
            message.put(CHANNEL_AT, 1, channel);
            message.put(NUMBER_AT, 4, number);
            message.put(FIRST_AT, 4, value);
        }

        boolean fits(int value) {
            int width = WIDTHS[codeWith(value - last - step)];
            return sizeFor(bits + CODE_BITS + (inBlock + 1) * width) <= LONGEST;
        }

        /** Only for a value that fits. */
        void append(int value) {
            int difference = value - last - step;
            block[inBlock] = difference;
            inBlock++;
            code = codeWith(difference);
            step = value - last;
            last = value;
            held++;
            if (inBlock == BLOCK) {
                writeBlock();
            }
        }

        void close(int percent, int place) {
            if (inBlock > 0) {
                writeBlock();
            }
            order = place;
            message.size = sizeFor(bits);
            message.put(QUALITY_AT, 1, percent);
            message.put(HELD_AT, 2, held);
            message.put(LAST_AT, 4, last);
        }

        private static int sizeFor(int bits) {
            return DIFFERENCES_AT + (bits + 7) / 8 + CHECK_BYTES;
        }

        /** The least code for the open block with one difference more: it never falls while a block grows. */
        private int codeWith(int difference) {
            int least = code;
            while (least < LAST_CODE && !fitsIn(difference, WIDTHS[least])) {
                least++;
            }
            return least;
        }

        private static boolean fitsIn(int difference, int width) {
            return width == 0 ? difference == 0 : difference >> (width - 1) == difference >> 31;
        }

        private void writeBlock() {
            write(code, CODE_BITS);
            for (int k = 0; k < inBlock; k++) {
                write(block[k], WIDTHS[code]);
            }
            inBlock = 0;
            code = 0;
        }

        private void write(int value, int width) {
            int left = width;
            while (left > 0) {
                int place = DIFFERENCES_AT + bits / 8;
                int room = 8 - bits % 8;
                int some = room < left ? room : left;
                left -= some;
                int part = (value >>> left & ((1 << some) - 1)) << (room - some);
                // A row is used again: a byte that is begun must not keep what an earlier packet left in it.
                message.row[place] = (byte) (room == 8 ? part : message.row[place] | part);
                bits += some;
            }
        }
    }

    /** The station's side of a channel. Its packets have serials, in the order in which they were begun. */
    private static final class Channel {
        final NumberSet asked = new NumberSet();
        int taken;
        private final int index;
        // One place more than the ring has, for the open packet.
        private final Packet[] packets = new Packet[RING + 1];
        private int closed;
        private int inClosed;
        private int unsent;

        Channel(int index) {
            this.index = index;
        }

        int inOpen() {
            return taken - inClosed;
        }

        int inRing() {
            return Math.min(closed, RING);
        }

        int oldest() {
            return closed == 0 ? 0 : packet(firstOfRing()).first;
        }

        boolean mustCloseBefore(int value) {
            return inOpen() > 0 && !packet(closed).fits(value);
        }

        void add(int value) {
            Packet open = packet(closed);
            if (inOpen() == 0) {
                open.begin(index, taken, value);
            } else {
                open.append(value);
            }
            taken++;
        }

        void close(int percent, int order) {
            packet(closed).close(percent, order);
            closed++;
            inClosed = taken;
        }

        int howManyWait() {
            return closed - firstThatWaits();
        }

        int orderOfFirstThatWaits() {
            return packet(firstThatWaits()).order;
        }

        void sendWaiting(Air air) {
            int serial = firstThatWaits();
            send(packet(serial), air);
            unsent = serial + 1;
        }

        void sendAsked(Air air) {
            int least = asked.next(0, true);
            int oldest = oldest();
            if (least < oldest) {
                sendEmpty(air);
                asked.exclude(0, oldest - 1);
            } else {
                Packet packet = packetWith(least);
                send(packet, air);
                asked.exclude(packet.first, packet.first + packet.held - 1);
            }
        }

        int askFor(long from, long to) {
            int first = (int) Math.min(from, LIMIT);
            int last = (int) Math.min(to, inClosed - 1);
            return first > last ? 0 : asked.include(first, last);
        }

        private int firstOfRing() {
            return closed - inRing();
        }

        private int firstThatWaits() {
            return Math.max(unsent, firstOfRing());
        }

        private Packet packet(int serial) {
            int place = Math.floorMod(serial, packets.length);
            if (packets[place] == null) {
                packets[place] = new Packet();
            }
            return packets[place];
        }

        /** Only for a number that is in the ring. */
        private Packet packetWith(int number) {
            int serial = firstOfRing();
            while (serial < closed - 1 && number >= packet(serial + 1).first) {
                serial++;
            }
            return packet(serial);
        }

        private void send(Packet packet, Air air) {
            Message message = air.add(packet.message.size);
            message.copy(packet.message);
            message.put(OLDEST_AT, 4, oldest());
            message.seal();
        }

        private void sendEmpty(Air air) {
            Message message = air.add(EMPTY_BYTES);
            message.put(CHANNEL_AT, 1, index);
            message.put(QUALITY_AT, 1, 0);
            message.put(HELD_AT, 2, 0);
            message.put(OLDEST_AT, 4, oldest());
            message.put(NUMBER_AT, 4, 0);
            message.put(FIRST_AT, 4, 0);
            message.put(LAST_AT, 4, 0);
            message.seal();
        }
    }

    private static final class Station {
        final Channel[] channels = new Channel[CHANNELS];
        int percent = BEST_QUALITY;
        int bad;
        private int closings;
        private boolean lastWaited;

        Station() {
            for (int i = 0; i < CHANNELS; i++) {
                channels[i] = new Channel(i);
            }
        }

        /** Only while the channel has less than LIMIT samples. */
        void take(Channel channel, int value) {
            if (channel.mustCloseBefore(value)) {
                close(channel);
            }
            channel.add(value);
            if (channel.inOpen() == MOST_IN_PACKET) {
                close(channel);
            }
        }

        void close(Channel channel) {
            channel.close(percent, closings);
            closings++;
        }

        int howManyWait() {
            int waiting = 0;
            for (int i = 0; i < CHANNELS; i++) {
                waiting += channels[i].howManyWait();
            }
            return waiting;
        }

        /** A turn; answers whether something was sent. */
        boolean sendNext(Air air) {
            Channel waiting = firstThatWaits();
            Channel asked = leastAsked();
            if (waiting != null && (asked == null || !lastWaited)) {
                waiting.sendWaiting(air);
                lastWaited = true;
                return true;
            }
            if (asked != null) {
                asked.sendAsked(air);
                lastWaited = false;
                return true;
            }
            return false;
        }

        int receive(Message message) {
            if (!isRequest(message)) {
                bad++;
                return NONE;
            }
            Channel channel = channels[(int) message.number(CHANNEL_AT, 1)];
            return channel.askFor(message.number(FROM_AT, 4), message.number(TO_AT, 4));
        }

        private static boolean isRequest(Message message) {
            return message.size == REQUEST_BYTES
                    && message.isSealed()
                    && isChannel(message.number(CHANNEL_AT, 1))
                    && message.number(ZEROS_AT, 3) == 0
                    && message.number(FROM_AT, 4) <= message.number(TO_AT, 4);
        }

        private Channel firstThatWaits() {
            Channel first = null;
            int least = 0;
            for (int i = 0; i < CHANNELS; i++) {
                if (channels[i].howManyWait() > 0) {
                    int order = channels[i].orderOfFirstThatWaits();
                    if (first == null || order < least) {
                        first = channels[i];
                        least = order;
                    }
                }
            }
            return first;
        }

        private Channel leastAsked() {
            Channel found = null;
            int least = LIMIT;
            for (int i = 0; i < CHANNELS; i++) {
                int number = channels[i].asked.next(0, true);
                if (number < least) {
                    found = channels[i];
                    least = number;
                }
            }
            return found;
        }
    }

    /** Walks along the samples of a message whose size is at least that of an empty one. */
    private static final class Decoder {
        int value;
        private final Message message;
        private final int end;
        private int place = DIFFERENCES_AT;
        private long taken;
        private int takenBits;
        private int inBlock;
        private int width;
        private int step;

        Decoder(Message message) {
            this.message = message;
            end = message.size - CHECK_BYTES;
            value = message.value(FIRST_AT);
        }

        /** Goes to the next sample; false if the bytes do not say one. */
        boolean advance() {
            if (inBlock == 0 && !readWidth()) {
                return false;
            }
            inBlock = inBlock == BLOCK - 1 ? 0 : inBlock + 1;
            if (width > 0) {
                if (!isLeft(width)) {
                    return false;
                }
                int unused = 32 - width;
                step += read(width) << unused >> unused;
            }
            value += step;
            return true;
        }

        /** Whether only 0s are left, up to the next byte, and nothing behind but the check. */
        boolean isAtEnd() {
            return place == end && (taken & ((1L << takenBits) - 1)) == 0;
        }

        private boolean readWidth() {
            if (!isLeft(CODE_BITS)) {
                return false;
            }
            int code = read(CODE_BITS);
            if (code > LAST_CODE) {
                return false;
            }
            width = WIDTHS[code];
            return true;
        }

        private boolean isLeft(int bits) {
            return takenBits + 8 * (end - place) >= bits;
        }

        /** Only for bits that are left. */
        private int read(int bits) {
            while (takenBits < bits && place < end) {
                taken = (taken << 8) | (message.row[place] & 255);
                takenBits += 8;
                place++;
            }
            takenBits -= bits;
            return (int) (taken >>> takenBits & ((1L << bits) - 1));
        }
    }

    /** A part of a track, made when its first sample comes: most tracks stay far below the limit. */
    private static final class Page {
        final int[] values = new int[PAGE];
        final byte[] qualities = new byte[PAGE];
    }

    /** The centre's side of a channel. */
    private static final class Track {
        final NumberSet had = new NumberSet();
        int oldest;
        private final Page[] pages = new Page[LIMIT / PAGE];

        int valueOf(int number) {
            return had.contains(number) ? page(number).values[number % PAGE] : 0;
        }

        int qualityOf(int number) {
            return had.contains(number) ? page(number).qualities[number % PAGE] : NONE;
        }

        /** Only for a sound message with samples, as are the next one's. */
        boolean clashes(Message message) {
            Decoder decoder = new Decoder(message);
            int first = message.value(NUMBER_AT);
            int end = first + (int) message.number(HELD_AT, 2);
            for (int number = first; number < end; number++) {
                if (had.contains(number) && valueOf(number) != decoder.value) {
                    return true;
                }
                decoder.advance();
            }
            return false;
        }

        int keep(Message message) {
            Decoder decoder = new Decoder(message);
            byte percent = message.row[QUALITY_AT];
            int first = message.value(NUMBER_AT);
            int end = first + (int) message.number(HELD_AT, 2);
            for (int number = first; number < end; number++) {
                if (!had.contains(number)) {
                    Page page = page(number);
                    page.values[number % PAGE] = decoder.value;
                    page.qualities[number % PAGE] = percent;
                }
                decoder.advance();
            }
            return had.include(first, end - 1);
        }

        int howManyGaps() {
            int gaps = 0;
            int start = startOfGapFrom(0);
            while (start < LIMIT && gaps < LIMIT) {
                gaps++;
                start = startOfGapFrom(endOfGap(start) + 1);
            }
            return gaps;
        }

        /** LIMIT if there is no gap i. */
        int startOfGap(int i) {
            if (i < 0) {
                return LIMIT;
            }
            int start = startOfGapFrom(0);
            for (int k = 0; k < i && start < LIMIT; k++) {
                start = startOfGapFrom(endOfGap(start) + 1);
            }
            return start;
        }

        /** Only for a number in a gap. */
        int endOfGap(int number) {
            return had.next(number, true) - 1;
        }

        /** The least number in a gap that is not below the given one; LIMIT without one. */
        int startOfGapFrom(int least) {
            int missing = had.next(Math.max(least, had.next(0, true)), false);
            return had.next(missing, true) == LIMIT ? LIMIT : missing;
        }

        private Page page(int number) {
            int place = number / PAGE;
            if (pages[place] == null) {
                pages[place] = new Page();
            }
            return pages[place];
        }
    }

    private static final class Centre {
        final Track[] tracks = new Track[CHANNELS];
        int rejected;
        int clashed;

        Centre() {
            for (int i = 0; i < CHANNELS; i++) {
                tracks[i] = new Track();
            }
        }

        /** Answers whether there was a gap to be asked for. */
        boolean sendRequest(Air air) {
            int channel = NONE;
            int from = LIMIT;
            for (int i = 0; i < CHANNELS; i++) {
                int start = tracks[i].startOfGapFrom(tracks[i].oldest);
                if (start < from) {
                    channel = i;
                    from = start;
                }
            }
            if (channel == NONE) {
                return false;
            }
            Message message = air.add(REQUEST_BYTES);
            message.put(CHANNEL_AT, 1, channel);
            message.put(ZEROS_AT, 3, 0);
            message.put(FROM_AT, 4, from);
            message.put(TO_AT, 4, tracks[channel].endOfGap(from));
            message.seal();
            return true;
        }

        int receive(Message message) {
            if (!isSound(message)) {
                rejected++;
                return NONE;
            }
            Track track = tracks[(int) message.number(CHANNEL_AT, 1)];
            track.oldest = Math.max(track.oldest, message.value(OLDEST_AT));
            if (message.number(HELD_AT, 2) == 0) {
                return 0;
            }
            if (track.clashes(message)) {
                clashed++;
                return CLASH;
            }
            return track.keep(message);
        }

        private static boolean isSound(Message message) {
            return message.size >= EMPTY_BYTES
                    && message.isSealed()
                    && isChannel(message.number(CHANNEL_AT, 1))
                    && message.number(QUALITY_AT, 1) <= BEST_QUALITY
                    && message.number(OLDEST_AT, 4) <= LIMIT
                    && (message.number(HELD_AT, 2) == 0 ? isEmpty(message) : isFilled(message));
        }

        private static boolean isEmpty(Message message) {
            return message.size == EMPTY_BYTES
                    && message.number(QUALITY_AT, 1) == 0
                    && message.number(NUMBER_AT, 4) == 0
                    && message.number(FIRST_AT, 4) == 0
                    && message.number(LAST_AT, 4) == 0;
        }

        private static boolean isFilled(Message message) {
            long held = message.number(HELD_AT, 2);
            long end = message.number(NUMBER_AT, 4) + held;
            if (end > LIMIT || message.number(OLDEST_AT, 4) >= end) {
                return false;
            }
            Decoder decoder = new Decoder(message);
            for (int k = 1; k < held; k++) {
                if (!decoder.advance()) {
                    return false;
                }
            }
            return decoder.isAtEnd() && decoder.value == message.value(LAST_AT);
        }
    }
}
