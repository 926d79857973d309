import java.util.zip.CRC32;

/** What tests do with the bytes of a slot, through the face alone. */
final class Slots {
    private Slots() {
    }

    static String hex(QuakeLink x, int slot) {
        StringBuilder text = new StringBuilder();
        int length = x.length(slot);
        for (int i = 0; i < length; i++) {
            text.append(String.format("%02x", x.air(slot, i)));
        }
        return text.toString();
    }

    /** The written bytes and behind them the check, as another program reckons it. */
    static String checked(String hex) {
        CRC32 check = new CRC32();
        for (int i = 0; i < hex.length(); i += 2) {
            check.update(Integer.parseInt(hex.substring(i, i + 2), 16));
        }
        return hex + String.format("%08x", check.getValue());
    }

    /** Bytes from i on become the given ones, and the check is mended. */
    static void forge(QuakeLink x, int slot, int i, int... bytes) {
        for (int k = 0; k < bytes.length; k++) {
            x.spoil(slot, i + k, x.air(slot, i + k) ^ bytes[k]);
        }
        x.mend(slot);
    }

    static void forgeFour(QuakeLink x, int slot, int i, int value) {
        forge(x, slot, i, value >>> 24, value >>> 16 & 255, value >>> 8 & 255, value & 255);
    }

    /** A packet of the given samples is closed and sent, with nothing else waiting. */
    static int sent(QuakeLink x, int channel, int... values) {
        for (int value : values) {
            x.sample(channel, value);
        }
        x.flush(channel);
        return x.turn();
    }
}
