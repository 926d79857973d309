import java.util.ArrayList;
import java.util.Arrays;
import java.util.Collections;
import java.util.List;
import java.util.TreeMap;
import java.util.TreeSet;
import java.util.zip.CRC32;

/** The document's words once more, as simple and as slow as they can be put, to compare the program with. */
final class Model {
    private static final int[] WIDTHS = {0, 4, 6, 8, 10, 12, 16, 20, 24, 32};

    private static final class Packet {
        int channel;
        int first;
        int quality;
        final List<Integer> values = new ArrayList<>();

        int end() {
            return first + values.size();
        }
    }

    private final List<List<Integer>> taken = new ArrayList<>();
    private final List<Packet> open = new ArrayList<>();
    private final List<List<Packet>> closed = new ArrayList<>();
    private final List<TreeSet<Integer>> asked = new ArrayList<>();
    private final List<TreeMap<Integer, int[]>> had = new ArrayList<>();
    private final int[] heard = new int[4];
    private final List<Packet> unsent = new ArrayList<>();
    private final List<int[]> air = new ArrayList<>();
    private int quality = 100;
    private String sentLast = "nothing";
    private int rejected;
    private int clashed;
    private int bad;

    Model() {
        for (int c = 0; c < 4; c++) {
            taken.add(new ArrayList<>());
            open.add(null);
            closed.add(new ArrayList<>());
            asked.add(new TreeSet<>());
            had.add(new TreeMap<>());
        }
    }

    // ---- the station

    int sample(int channel, int value) {
        needChannel(channel);
        if (taken.get(channel).size() == 32768) {
            throw new IllegalStateException();
        }
        take(channel, value);
        return taken.get(channel).size() - 1;
    }

    int samples(int channel, int n, int value, int step, int turn) {
        needChannel(channel);
        if (n < 1 || n > 2000) {
            throw new IllegalArgumentException();
        }
        int number = taken.get(channel).size();
        if (number + n > 32768) {
            throw new IllegalStateException();
        }
        for (int k = 0; k < n; k++) {
            take(channel, value + k * step + (int) ((long) k * (k - 1) / 2 * turn));
        }
        return number;
    }

    void quality(int percent) {
        if (percent < 0 || percent > 100) {
            throw new IllegalArgumentException();
        }
        quality = percent;
    }

    int flush(int channel) {
        needChannel(channel);
        Packet packet = open.get(channel);
        if (packet == null) {
            return 0;
        }
        close(channel);
        return packet.values.size();
    }

    private void take(int channel, int value) {
        Packet packet = open.get(channel);
        if (packet != null) {
            packet.values.add(value);
            if (lengthOf(packet.values) > 512) {
                packet.values.remove(packet.values.size() - 1);
                close(channel);
                packet = null;
            }
        }
        if (packet == null) {
            packet = new Packet();
            packet.channel = channel;
            packet.first = taken.get(channel).size();
            packet.values.add(value);
            open.set(channel, packet);
        }
        taken.get(channel).add(value);
        if (packet.values.size() == 1000) {
            close(channel);
        }
    }

    private void close(int channel) {
        Packet packet = open.get(channel);
        packet.quality = quality;
        closed.get(channel).add(packet);
        unsent.add(packet);
        open.set(channel, null);
    }

    private List<Packet> ring(int channel) {
        List<Packet> all = closed.get(channel);
        return all.subList(Math.max(0, all.size() - 32), all.size());
    }

    private int oldest(int channel) {
        List<Packet> ring = ring(channel);
        return ring.isEmpty() ? 0 : ring.get(0).first;
    }

    private List<Packet> waiting() {
        List<Packet> waiting = new ArrayList<>();
        for (Packet packet : unsent) {
            if (ring(packet.channel).contains(packet)) {
                waiting.add(packet);
            }
        }
        return waiting;
    }

    int turn() {
        List<Packet> waiting = waiting();
        int least = -1;
        for (int c = 3; c >= 0; c--) {
            if (!asked.get(c).isEmpty() && (least < 0 || asked.get(c).first() <= asked.get(least).first())) {
                least = c;
            }
        }
        if (!waiting.isEmpty() && (least < 0 || !sentLast.equals("waited"))) {
            send(waiting.get(0));
            unsent.remove(waiting.get(0));
            sentLast = "waited";
            return air.size() - 1;
        }
        if (least < 0) {
            return -1;
        }
        sentLast = "asked";
        int a = asked.get(least).first();
        if (a < oldest(least)) {
            Packet none = new Packet();
            none.channel = least;
            send(none);
            asked.get(least).headSet(oldest(least)).clear();
            return air.size() - 1;
        }
        for (Packet packet : ring(least)) {
            if (packet.first <= a && a < packet.end()) {
                send(packet);
                asked.get(least).subSet(packet.first, packet.end()).clear();
            }
        }
        return air.size() - 1;
    }

    private void send(Packet packet) {
        StringBuilder bits = new StringBuilder();
        List<Integer> values = packet.values;
        int n = values.size();
        put(bits, packet.channel, 8);
        put(bits, packet.quality, 8);
        put(bits, n, 16);
        put(bits, oldest(packet.channel), 32);
        put(bits, packet.first, 32);
        put(bits, n == 0 ? 0 : values.get(0), 32);
        put(bits, n == 0 ? 0 : values.get(n - 1), 32);
        List<Integer> differences = differences(values);
        for (int k = 0; k < differences.size(); k += 15) {
            List<Integer> block = differences.subList(k, Math.min(k + 15, differences.size()));
            int c = code(block);
            put(bits, c, 4);
            for (int difference : block) {
                put(bits, difference, WIDTHS[c]);
            }
        }
        while (bits.length() % 8 != 0) {
            bits.append('0');
        }
        addSlot(bits);
    }

    private void addSlot(StringBuilder bits) {
        int[] bytes = new int[bits.length() / 8 + 4];
        for (int i = 0; i < bytes.length - 4; i++) {
            bytes[i] = Integer.parseInt(bits.substring(8 * i, 8 * i + 8), 2);
        }
        putCheck(bytes);
        air.add(bytes);
    }

    private static void put(StringBuilder bits, int value, int width) {
        for (int k = width - 1; k >= 0; k--) {
            bits.append((value >>> k & 1) == 1 ? '1' : '0');
        }
    }

    private static void putCheck(int[] bytes) {
        long check = checkOf(bytes);
        for (int k = 0; k < 4; k++) {
            bytes[bytes.length - 4 + k] = (int) (check >> 24 - 8 * k & 255);
        }
    }

    private static long checkOf(int[] bytes) {
        CRC32 check = new CRC32();
        for (int i = 0; i < bytes.length - 4; i++) {
            check.update(bytes[i]);
        }
        return check.getValue();
    }

    private static List<Integer> differences(List<Integer> x) {
        List<Integer> differences = new ArrayList<>();
        for (int k = 1; k < x.size(); k++) {
            int before = k == 1 ? 0 : x.get(k - 1) - x.get(k - 2);
            differences.add(x.get(k) - x.get(k - 1) - before);
        }
        return differences;
    }

    private static int code(List<Integer> block) {
        long low = Collections.min(block);
        long high = Collections.max(block);
        if (low == 0 && high == 0) {
            return 0;
        }
        int c = 1;
        while (low < -(1L << WIDTHS[c] - 1) || high >= 1L << WIDTHS[c] - 1) {
            c++;
        }
        return c;
    }

    private static int lengthOf(List<Integer> values) {
        List<Integer> differences = differences(values);
        int bits = 0;
        for (int k = 0; k < differences.size(); k += 15) {
            List<Integer> block = differences.subList(k, Math.min(k + 15, differences.size()));
            bits += 4 + block.size() * WIDTHS[code(block)];
        }
        return 24 + (bits + 7) / 8;
    }

    int hear(int slot) {
        int[] bytes = needSlot(slot);
        if (bytes.length != 16 || number(bytes, 12, 4) != checkOf(bytes) || bytes[0] > 3
                || number(bytes, 1, 3) != 0 || number(bytes, 4, 4) > number(bytes, 8, 4)) {
            bad++;
            return -1;
        }
        int fresh = 0;
        for (Packet packet : closed.get(bytes[0])) {
            for (int k = packet.first; k < packet.end(); k++) {
                if (k >= number(bytes, 4, 4) && k <= number(bytes, 8, 4) && asked.get(bytes[0]).add(k)) {
                    fresh++;
                }
            }
        }
        return fresh;
    }

    // ---- the air

    void lose(int slot) {
        needSlot(slot);
        air.set(slot, null);
    }

    int length(int slot) {
        return needSlot(slot).length;
    }

    int air(int slot, int i) {
        return needByte(slot, i)[i];
    }

    void spoil(int slot, int i, int mask) {
        needByte(slot, i)[i] ^= mask & 255;
    }

    void mend(int slot) {
        putCheck(needSlot(slot));
    }

    private int[] needSlot(int slot) {
        if (slot < 0 || slot >= air.size() || slot < air.size() - 64 || air.get(slot) == null) {
            throw new IndexOutOfBoundsException();
        }
        return air.get(slot);
    }

    private int[] needByte(int slot, int i) {
        int[] bytes = needSlot(slot);
        if (i < 0 || i >= bytes.length) {
            throw new IndexOutOfBoundsException();
        }
        return bytes;
    }

    private static void needChannel(int channel) {
        if (channel < 0 || channel > 3) {
            throw new IndexOutOfBoundsException();
        }
    }

    private static long number(int[] bytes, int at, int count) {
        long number = 0;
        for (int i = at; i < at + count; i++) {
            number = number * 256 + bytes[i];
        }
        return number;
    }

    // ---- the centre

    int ask() {
        int best = -1;
        int[] from = new int[4];
        int[] to = new int[4];
        for (int c = 3; c >= 0; c--) {
            from[c] = 32768;
            for (int[] gap : gapsOf(c)) {
                if (gap[1] >= heard[c] && from[c] == 32768) {
                    from[c] = Math.max(gap[0], heard[c]);
                    to[c] = gap[1];
                }
            }
            if (from[c] < 32768 && (best < 0 || from[c] <= from[best])) {
                best = c;
            }
        }
        if (best < 0) {
            return -1;
        }
        StringBuilder bits = new StringBuilder();
        put(bits, best << 24, 32);
        put(bits, from[best], 32);
        put(bits, to[best], 32);
        addSlot(bits);
        return air.size() - 1;
    }

    int deliver(int slot) {
        int[] bytes = needSlot(slot);
        int[] values = decoded(bytes);
        if (values == null) {
            rejected++;
            return -1;
        }
        int channel = bytes[0];
        heard[channel] = Math.max(heard[channel], (int) number(bytes, 4, 4));
        TreeMap<Integer, int[]> samples = had.get(channel);
        int first = (int) number(bytes, 8, 4);
        for (int k = 0; k < values.length; k++) {
            if (samples.containsKey(first + k) && samples.get(first + k)[0] != values[k]) {
                clashed++;
                return -2;
            }
        }
        int before = samples.size();
        for (int k = 0; k < values.length; k++) {
            samples.putIfAbsent(first + k, new int[] {values[k], bytes[1]});
        }
        return samples.size() - before;
    }

    /** The values of a message; null if it is to be rejected. */
    private static int[] decoded(int[] bytes) {
        int length = bytes.length;
        if (length < 24 || number(bytes, length - 4, 4) != checkOf(bytes) || bytes[0] > 3 || bytes[1] > 100) {
            return null;
        }
        int n = (int) number(bytes, 2, 2);
        long oldest = number(bytes, 4, 4);
        long first = number(bytes, 8, 4);
        if (oldest > 32768) {
            return null;
        }
        if (n == 0) {
            boolean allZero = bytes[1] == 0 && first == 0 && number(bytes, 12, 4) == 0 && number(bytes, 16, 4) == 0;
            return length == 24 && allZero ? new int[0] : null;
        }
        if (first + n > 32768 || oldest > first + n - 1) {
            return null;
        }
        int[] values = walked(bytes, n);
        return values != null && values[n - 1] == (int) number(bytes, 16, 4) ? values : null;
    }

    private static int[] walked(int[] bytes, int n) {
        StringBuilder bits = new StringBuilder();
        for (int i = 20; i < bytes.length - 4; i++) {
            put(bits, bytes[i], 8);
        }
        int[] values = new int[n];
        values[0] = (int) number(bytes, 12, 4);
        int at = 0;
        int width = 0;
        for (int k = 1; k < n; k++) {
            if (k % 15 == 1) {
                if (at + 4 > bits.length()) {
                    return null;
                }
                int code = Integer.parseInt(bits.substring(at, at + 4), 2);
                at += 4;
                if (code > 9) {
                    return null;
                }
                width = WIDTHS[code];
            }
            if (at + width > bits.length()) {
                return null;
            }
            long difference = width == 0 ? 0 : Long.parseLong(bits.substring(at, at + width), 2);
            if (width > 0 && bits.charAt(at) == '1') {
                difference -= 1L << width;
            }
            at += width;
            int before = k == 1 ? 0 : values[k - 1] - values[k - 2];
            values[k] = values[k - 1] + before + (int) difference;
        }
        return bits.length() - at < 8 && bits.indexOf("1", at) < 0 ? values : null;
    }

    boolean has(int channel, int number) {
        needChannel(channel);
        return had.get(channel).containsKey(number);
    }

    int at(int channel, int number) {
        return has(channel, number) ? had.get(channel).get(number)[0] : 0;
    }

    int qualityAt(int channel, int number) {
        return has(channel, number) ? had.get(channel).get(number)[1] : -1;
    }

    private List<int[]> gapsOf(int channel) {
        List<int[]> gaps = new ArrayList<>();
        int before = -1;
        for (int number : had.get(channel).keySet()) {
            if (before >= 0 && number > before + 1) {
                gaps.add(new int[] {before + 1, number - 1});
            }
            before = number;
        }
        return gaps;
    }

    int gaps(int channel) {
        needChannel(channel);
        return gapsOf(channel).size();
    }

    int gap(int channel, int i, boolean last) {
        needChannel(channel);
        List<int[]> gaps = gapsOf(channel);
        if (i < 0 || i >= gaps.size()) {
            throw new IndexOutOfBoundsException();
        }
        return gaps.get(i)[last ? 1 : 0];
    }

    int count(int channel, int what) {
        needChannel(channel);
        if (what < 0 || what > 6) {
            throw new IllegalArgumentException();
        }
        int[] counts = {
            taken.get(channel).size(), oldest(channel), ring(channel).size(),
            open.get(channel) == null ? 0 : open.get(channel).values.size(),
            asked.get(channel).size(), had.get(channel).size(), heard[channel]
        };
        return counts[what];
    }

    int total(int what) {
        if (what < 0 || what > 4) {
            throw new IllegalArgumentException();
        }
        return Arrays.asList(waiting().size(), air.size(), rejected, clashed, bad).get(what);
    }
}
