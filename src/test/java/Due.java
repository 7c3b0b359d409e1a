import java.util.zip.CRC32;

/** What the tests share: answers held against those due, and frames made by the document. */
final class Due {
    private static int asked = 0;
    private static int wrong = 0;

    private Due() {
    }

    static void is(String call, long got, long want) {
        asked++;
        if (got != want) {
            wrong++;
            System.out.println(call + " answered " + got + ", due is " + want);
        }
    }

    static void finish() {
        System.out.println(asked + " answers, " + wrong + " not as due");
        if (wrong != 0 || asked == 0) {
            System.exit(1);
        }
    }

    /** Drafts and offers a packet of these bytes. */
    static int offer(Counted x, int end, int... packet) {
        for (int value : packet) {
            x.draft(end, 1, value);
        }
        return x.offer(end);
    }

    /** Offers packets of one byte each, from one value to another. */
    static void offerOnes(Counted x, int end, int from, int to) {
        for (int v = from; v <= to; v++) {
            offer(x, end, v);
        }
    }

    /** What end() tells of an END, from its first number on. */
    static void ends(String at, Counted x, int end, int... want) {
        for (int what = 0; what < want.length; what++) {
            is(at + " end(" + end + ", " + what + ")", x.end(end, what), want[what]);
        }
    }

    /** What count() tells, from its first number on. */
    static void counts(String at, Counted x, int... want) {
        for (int what = 0; what < want.length; what++) {
            is(at + " count(" + what + ")", x.count(what), want[what]);
        }
    }

    static int[] dataFrame(int number, int... packet) {
        return packetFrame(number, packet, 0, 253);
    }

    static int[] voidFrame(int number, int... packet) {
        return packetFrame(number, packet, 0xFFFFFFFFL, 254);
    }

    private static int[] packetFrame(int number, int[] packet, long turned, int last) {
        CRC32 crc = new CRC32();
        crc.update(0);
        crc.update(number);
        for (int value : packet) {
            crc.update(value);
        }
        long check = crc.getValue() ^ turned;
        int[] frame = new int[packet.length + 8];
        frame[0] = 251;
        frame[2] = number;
        System.arraycopy(packet, 0, frame, 3, packet.length);
        for (int i = 0; i < 4; i++) {
            frame[packet.length + 3 + i] = (int) (check >> 8 * i) & 255;
        }
        frame[packet.length + 7] = last;
        return frame;
    }

    /** A word of any kind (0 ACK, 16 NAK, others none) with any number, its short check right. */
    static int[] wordFrame(int kind, int number) {
        int check = shortCheck(kind, number);
        return new int[] {92, kind, number, check & 255, check >> 8, 253};
    }

    /** By the polynomial 100B itself: the highest bit first, so bytes and answer are turned. */
    static int shortCheck(int... row) {
        int rest = 0xFFFF;
        for (int value : row) {
            rest ^= Integer.reverse(value) >>> 24 << 8;
            for (int bit = 0; bit < 8; bit++) {
                rest = (rest & 0x8000) == 0 ? rest << 1 : (rest << 1 ^ 0x100B) & 0xFFFF;
            }
        }
        return Integer.reverse(rest ^ 0xFFFF) >>> 16;
    }

    /** Bends the frame at a place, which must be as long, till it has just these bytes. */
    static void forge(Counted x, int wire, int place, int[] want) {
        for (int i = 0; i < want.length; i++) {
            int has = x.wire(wire, place, 3 + i);
            if (has != want[i]) {
                x.bend(wire, place, i, has ^ want[i]);
            }
        }
    }

    static void frameIs(String name, Counted x, int wire, int place, int[] want) {
        is(name + " length", x.wire(wire, place, 0), want.length);
        for (int i = 0; i <= 32; i++) {
            is(name + " byte " + i, x.wire(wire, place, 3 + i),
                    i < want.length ? want[i] : ReplayLink.NONE);
        }
    }

    static void upIs(String name, Counted x, int end, int i, int... want) {
        is(name + " length", x.up(end, i), want.length);
        for (int k = 0; k < want.length; k++) {
            is(name + " byte " + k, x.upByte(end, i, k), want[k]);
        }
        is(name + " behind", x.upByte(end, i, want.length), ReplayLink.NONE);
    }
}
