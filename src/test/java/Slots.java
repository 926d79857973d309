import java.util.zip.CRC32;

/** What tests do with the bytes of a slot, through the face alone. */
final class Slots {
    private Slots() {
    }

    static String hex(QuakeLink x, int slot) {
        StringBuilder text = new StringBuilder();
        int length = x.length(slot);
        for (int i = 0; i < length; i++) {
            text.append(String.format("%02x", x.air(slot, i)));
        }
        return text.toString();
    }

    /** The written bytes and behind them the check, as another program reckons it. */
    static String checked(String hex) {
        CRC32 check = new CRC32();
        for (int i = 0; i < hex.length(); i += 2) {
            check.update(Integer.parseInt(hex.substring(i, i + 2), 16));
        }
        return hex + String.format("%08x", check.getValue());
    }

    /** Bytes from i on become the given ones, and the check is mended. */
    static void forge(QuakeLink x, int slot, int i, int... bytes) {
        for (int k = 0; k < bytes.length; k++) {
            int mask = x.air(slot, i + k) ^ bytes[k];
            // A call less, of the 512 that an object has.
            if (mask != 0) {
                x.spoil(slot, i + k, mask);
            }
        }
        x.mend(slot);
    }

    static void forgeFour(QuakeLink x, int slot, int i, int value) {
        forge(x, slot, i, value >>> 24, value >>> 16 & 255, value >>> 8 & 255, value & 255);
    }

    /** A packet of the given samples is closed and sent, with nothing else waiting. */
    static int sent(QuakeLink x, int channel, int... values) {
        for (int value : values) {
            x.sample(channel, value);
        }
        x.flush(channel);
        return x.turn();
    }

    /** The bytes of a hex text are written into a slot from byte i on, and the check is mended. */
    static void forgeHex(QuakeLink x, int slot, int i, String hex) {
        int[] bytes = new int[hex.length() / 2];
        for (int k = 0; k < bytes.length; k++) {
            bytes[k] = Integer.parseInt(hex.substring(2 * k, 2 * k + 2), 16);
        }
        forge(x, slot, i, bytes);
    }

    /**
     * A message of the written bytes, and their check behind, comes into the air: one of the station's channel 3 of
     * the same length, forged. Nothing may wait before, and nothing be asked for.
     */
    static int written(QuakeLink x, String hex) {
        int halfBytes = hex.length() - 40;
        int n = 1;
        while (n - 1 + (n + 13) / 15 < halfBytes - 1) {
            n++;
        }
        x.samples(3, n, 0, 7, 7);
        x.flush(3);
        int slot = x.turn();
        Checks.due("11: a message to be forged", x.length(slot), hex.length() / 2 + 4);
        forgeHex(x, slot, 0, hex);
        return slot;
    }

    /** The first twenty bytes of a message of channel 0, with quality 100. */
    static String head(int n, int oldest, int number, int first, int last) {
        return String.format("0064%04x%08x%08x%08x%08x", n, oldest, number, first, last);
    }

    /** A slot with a request, to be forged. One sample of channel 3 is sent for it; nothing may wait before. */
    static int request(QuakeLink x) {
        int slot = sent(x, 3, 0);
        x.deliver(slot);
        forgeFour(x, slot, 8, 32767);
        x.deliver(slot);
        return x.ask();
    }

    /** The station hears the request, with other contents. */
    static int asked(QuakeLink x, int request, int channel, int from, int to) {
        forgeHex(x, request, 0, String.format("%02x000000%08x%08x", channel, from, to));
        return x.hear(request);
    }

    static int numberOf(QuakeLink x, int slot) {
        return x.air(slot, 8) << 24 | x.air(slot, 9) << 16 | x.air(slot, 10) << 8 | x.air(slot, 11);
    }

    /** Bits as hex, with 0s up to the next byte; blanks are left out. */
    static String bits(String text) {
        StringBuilder bits = new StringBuilder(text.replace(" ", ""));
        while (bits.length() % 8 != 0) {
            bits.append('0');
        }
        StringBuilder hex = new StringBuilder();
        for (int i = 0; i < bits.length(); i += 4) {
            hex.append(Integer.toHexString(Integer.parseInt(bits.substring(i, i + 4), 2)));
        }
        return hex.toString();
    }
}
