/**
 * Two ends of a link with a wire each way: packets go in numbered, checked frames, are kept till
 * they are acknowledged and sent again when need be; the other end hands up each once, in order.
 */
public final class ReplayLink {
    public static final int BAD = -1, NO = -2, FULL = -3, NONE = -4;

    private static final int SIDES = 2;
    private static final int MOST_PACKET_BYTES = 24;
    private static final int MOST_FRAME_BYTES = 32;
    private static final int MOST_OFFERED = 60;
    private static final int MOST_WAITING = 16;
    private static final int MOST_UNACKED = 8;
    private static final int MOST_KEPT_UP = 60;
    private static final int MOST_ON_WIRE = 12;
    private static final int MOST_TICKS = 20000;
    private static final int MOST_TRIES = 4;
    private static final int TRAINING_TICKS = 5;

    private static final int FULL_BITS = 32, SHORT_BITS = 16;
    private static final int LAST_NUMBER = 63;
    private static final int HALF_OF_NUMBERS = 32;

    // What a frame is read as, by the numbers that wire() tells.
    private static final int DATA = 0, VOID = 1, ACK = 2, NAK = 3, SPOILT = 4, NOTHING = 5;

    // What count() is asked for; the tallies stand at these places of their row.
    private static final int TICKS = 0, TRAINING_LEFT = 1, TRAININGS = 2, SENDINGS_AGAIN = 3,
            LAID_FIRST = 4, LAID_AGAIN = 5, LAID_VOID = 6, LAID_ACK = 7, LAID_NAK = 8,
            CAME_UP = 9, CAME_REPEAT = 10, CAME_AHEAD = 11, CAME_VOID = 12,
            CAME_WORD = 13, CAME_WRONG = 14, CAME_SPOILT = 15, CAME_NOTHING = 16, QUIET = 17;

    private final Link link;
    private final Link[] kept;

    public ReplayLink() {
        link = new Link();
        kept = new Link[2];
    }

    public int draft(int end, int n, long v) {
        if (isNoSide(end) || n < 1 || n > 8) {
            return BAD;
        }
        End at = link.ends[end];
        if (at.draftLength + n > MOST_PACKET_BYTES) {
            return FULL;
        }
        at.addToDraft(n, v);
        return at.draftLength;
    }

    public int offer(int end) {
        if (isNoSide(end)) {
            return BAD;
        }
        End at = link.ends[end];
        if (at.draftLength == 0) {
            return NO;
        }
        if (at.waiting() >= MOST_WAITING || at.offered >= MOST_OFFERED) {
            return FULL;
        }
        at.turnDraftIntoPacket();
        return at.waiting();
    }

    public long check(int end, int what) {
        if (isNoSide(end) || what < 0 || what > 1) {
            return BAD;
        }
        End at = link.ends[end];
        return checkOf(what == 0 ? FULL_BITS : SHORT_BITS, at.draft, 0, at.draftLength);
    }

    public int set(int what, int v) {
        switch (what) {
            case 0:
                return v < 1 || v > 6 ? BAD : link.changeDelay(v);
            case 1:
                return v < 1 || v > 60 ? BAD : link.changePatience(v);
            case 2:
                return v < 0 || v > 9 ? BAD : link.changeAckDelay(v);
            default:
                return BAD;
        }
    }

    public int tick(int n) {
        if (n < 1 || n > 200) {
            return BAD;
        }
        if (link.ticks + n > MOST_TICKS) {
            return FULL;
        }
        int came = 0;
        for (int i = 0; i < n; i++) {
            came += link.passTick();
        }
        return came;
    }

    public int settle(int n) {
        if (n < 1 || n > 400) {
            return BAD;
        }
        if (link.ticks + n > MOST_TICKS) {
            return FULL;
        }
        for (int passed = 0; passed < n; passed++) {
            if (link.isQuiet()) {
                return passed;
            }
            link.passTick();
        }
        return n;
    }

    public int voids(int end) {
        if (isNoSide(end)) {
            return BAD;
        }
        End at = link.ends[end];
        int before = asNumber(at.voidTold);
        at.voidTold = true;
        return before;
    }

    public int bend(int wire, int place, int i, int mask) {
        if (isNoFrame(wire, place) || mask < 1 || mask > 255) {
            return BAD;
        }
        Frame frame = link.wires[wire].frames[place];
        if (i < 0 || i >= frame.length) {
            return BAD;
        }
        frame.bytes[i] ^= mask;
        return frame.bytes[i];
    }

    public int lose(int wire, int place) {
        if (isNoFrame(wire, place)) {
            return BAD;
        }
        Wire on = link.wires[wire];
        on.takeOff(place);
        return on.load;
    }

    public int twice(int wire, int place) {
        if (isNoFrame(wire, place)) {
            return BAD;
        }
        Wire on = link.wires[wire];
        if (on.load >= MOST_ON_WIRE) {
            return FULL;
        }
        on.repeat(place);
        return on.load;
    }

    public int wire(int wire, int place, int what) {
        if (isNoSide(wire)) {
            return BAD;
        }
        if (place == -1) {
            return link.wires[wire].load;
        }
        if (isNoFrame(wire, place) || what < 0 || what > 3 + MOST_FRAME_BYTES) {
            return BAD;
        }
        Frame frame = link.wires[wire].frames[place];
        switch (what) {
            case 0:
                return frame.length;
            case 1:
                return frame.comesAt - link.ticks;
            case 2:
                return frame.readAs();
            default:
                return what - 3 < frame.length ? frame.bytes[what - 3] : NONE;
        }
    }

    public int end(int end, int what) {
        if (isNoSide(end)) {
            return BAD;
        }
        return link.ends[end].tell(what);
    }

    public int up(int end, int i) {
        if (isNoSide(end) || i < 0) {
            return BAD;
        }
        End at = link.ends[end];
        return i < at.keptUp() ? at.upPackets.lengths[i] : NONE;
    }

    public int upByte(int end, int i, int k) {
        if (isNoSide(end) || i < 0 || k < 0) {
            return BAD;
        }
        End at = link.ends[end];
        if (i >= at.keptUp() || k >= at.upPackets.lengths[i]) {
            return NONE;
        }
        return at.upPackets.byteOf(i, k);
    }

    public int count(int what) {
        if (what < TICKS || what > QUIET) {
            return BAD;
        }
        switch (what) {
            case TICKS:
                return link.ticks;
            case TRAINING_LEFT:
                return link.trainingLeft;
            case QUIET:
                return asNumber(link.isQuiet());
            default:
                return link.tallies[what];
        }
    }

    public int keep(int k) {
        if (isNoPlaceToKeep(k)) {
            return BAD;
        }
        boolean wasThere = kept[k] != null;
        if (!wasThere) {
            kept[k] = new Link();
        }
        kept[k].copyFrom(link);
        return asNumber(wasThere);
    }

    public int again(int k) {
        if (isNoPlaceToKeep(k)) {
            return BAD;
        }
        Link from = kept[k];
        if (from == null) {
            return NO;
        }
        link.copyFrom(from);
        return link.ticks;
    }

    private boolean isNoFrame(int wire, int place) {
        return isNoSide(wire) || place < 0 || place >= link.wires[wire].load;
    }

    private boolean isNoPlaceToKeep(int k) {
        return k < 0 || k >= kept.length;
    }

    private static boolean isNoSide(int side) {
        return side < 0 || side >= SIDES;
    }

    private static int asNumber(boolean is) {
        return is ? 1 : 0;
    }

    /** Takes a number, or a difference of two, back among 0 to 63. */
    private static int by64(int number) {
        return number & LAST_NUMBER;
    }

    /** The check of so many bits over a row's bytes, from one place to ahead of another. */
    private static long checkOf(int bits, int[] row, int from, int to) {
        long polynomial = bits == FULL_BITS ? 0xEDB88320L : 0xD008L;
        long ones = (1L << bits) - 1;
        long rest = ones;
        for (int i = from; i < to; i++) {
            rest ^= row[i];
            for (int bit = 0; bit < 8; bit++) {
                rest = (rest & 1) == 0 ? rest >>> 1 : rest >>> 1 ^ polynomial;
            }
        }
        return rest ^ ones;
    }

    private static long turned(long check) {
        return check ^ 0xFFFFFFFFL;
    }

    /** A row of packets, made once and written over. */
    private static final class Packets {
        final int[] lengths;
        final int[] bytes;

        Packets(int room) {
            lengths = new int[room];
            bytes = new int[room * MOST_PACKET_BYTES];
        }

        void put(int place, int[] row, int from, int length) {
            System.arraycopy(row, from, bytes, place * MOST_PACKET_BYTES, length);
            lengths[place] = length;
        }

        int byteOf(int place, int k) {
            return bytes[place * MOST_PACKET_BYTES + k];
        }

        void copyFrom(Packets other) {
            System.arraycopy(other.lengths, 0, lengths, 0, lengths.length);
            System.arraycopy(other.bytes, 0, bytes, 0, bytes.length);
        }
    }

    /** A frame's bytes, and the tick in which it comes. */
    private static final class Frame {
        private static final int DATA_BEGIN = 251, WORD_BEGIN = 92;
        private static final int GOOD_END = 253, VOID_END = 254;
        private static final int ACK_KIND = 0, NAK_KIND = 16;
        // Ahead of the packet: begin, 0, number. Behind it: four bytes of check, end.
        private static final int AHEAD = 3, BEHIND = 5;
        private static final int WORD_LENGTH = 6;

        final int[] bytes = new int[MOST_FRAME_BYTES];
        int length;
        int comesAt;

        void writeWord(int word, int number) {
            bytes[0] = WORD_BEGIN;
            bytes[1] = word == NAK ? NAK_KIND : ACK_KIND;
            bytes[2] = number;
            writeLowestFirst(3, 2, checkOf(SHORT_BITS, bytes, 1, 3));
            bytes[5] = GOOD_END;
            length = WORD_LENGTH;
        }

        void writePacket(int kind, int number, Packets packets, int place) {
            int size = packets.lengths[place];
            int behind = AHEAD + size;
            bytes[0] = DATA_BEGIN;
            bytes[1] = 0;
            bytes[2] = number;
            System.arraycopy(packets.bytes, place * MOST_PACKET_BYTES, bytes, AHEAD, size);
            long check = checkOf(FULL_BITS, bytes, 1, behind);
            writeLowestFirst(behind, 4, kind == VOID ? turned(check) : check);
            bytes[behind + 4] = kind == VOID ? VOID_END : GOOD_END;
            length = behind + BEHIND;
        }

        int readAs() {
            return bytes[0] == WORD_BEGIN ? readAsWord() : readAsPacket();
        }

        int number() {
            return bytes[2];
        }

        int packetLength() {
            return length - AHEAD - BEHIND;
        }

        void copyFrom(Frame other) {
            System.arraycopy(other.bytes, 0, bytes, 0, bytes.length);
            length = other.length;
            comesAt = other.comesAt;
        }

        private int readAsWord() {
            if (length != WORD_LENGTH || bytes[5] != GOOD_END || number() > LAST_NUMBER
                    || readLowestFirst(3, 2) != checkOf(SHORT_BITS, bytes, 1, 3)) {
                return NOTHING;
            }
            switch (bytes[1]) {
                case ACK_KIND:
                    return ACK;
                case NAK_KIND:
                    return NAK;
                default:
                    return NOTHING;
            }
        }

        private int readAsPacket() {
            // A word whose first byte was bent is read here too, and is too short.
            if (packetLength() < 1 || bytes[0] != DATA_BEGIN || bytes[1] != 0
                    || number() > LAST_NUMBER) {
                return SPOILT;
            }
            int behind = length - BEHIND;
            long told = readLowestFirst(behind, 4);
            long check = checkOf(FULL_BITS, bytes, 1, behind);
            switch (bytes[length - 1]) {
                case GOOD_END:
                    return told == check ? DATA : SPOILT;
                case VOID_END:
                    return told == turned(check) ? VOID : SPOILT;
                default:
                    return SPOILT;
            }
        }

        private void writeLowestFirst(int from, int size, long value) {
            for (int i = 0; i < size; i++) {
                bytes[from + i] = (int) (value >>> 8 * i) & 255;
            }
        }

        private long readLowestFirst(int from, int size) {
            long value = 0;
            for (int i = 0; i < size; i++) {
                value |= (long) bytes[from + i] << 8 * i;
            }
            return value;
        }
    }

    /** The frames under way from one end to the other, the eldest first; the rest are spare. */
    private static final class Wire {
        final Frame[] frames = new Frame[MOST_ON_WIRE];
        int load;

        Wire() {
            for (int i = 0; i < frames.length; i++) {
                frames[i] = new Frame();
            }
        }

        /** A frame to write on, behind all others. */
        Frame layOneMore(int comesAt) {
            if (load >= MOST_ON_WIRE) {
                takeOff(0);
            }
            Frame laid = frames[load];
            laid.comesAt = comesAt;
            load++;
            return laid;
        }

        /** The frame taken off is whole until the next one is laid: it is among the spare ones. */
        Frame takeOff(int place) {
            Frame taken = frames[place];
            load--;
            for (int i = place; i < load; i++) {
                frames[i] = frames[i + 1];
            }
            frames[load] = taken;
            return taken;
        }

        void repeat(int place) {
            Frame other = frames[load];
            other.copyFrom(frames[place]);
            for (int i = load; i > place + 1; i--) {
                frames[i] = frames[i - 1];
            }
            frames[place + 1] = other;
            load++;
        }

        /** The place of the eldest frame whose time is over, -1 if there is none. */
        int eldestOver(int tick) {
            for (int i = 0; i < load; i++) {
                if (frames[i].comesAt <= tick) {
                    return i;
                }
            }
            return -1;
        }

        void copyFrom(Wire other) {
            load = other.load;
            for (int i = 0; i < load; i++) {
                frames[i].copyFrom(other.frames[i]);
            }
        }
    }

    /**
     * What one end has. Of its packets, counted as they were offered, the first ones are
     * acknowledged, those from there to sent are unacked, those from there to offered wait.
     */
    private static final class End {
        // No more packets than these can be unacked or waiting: each has a place by its count.
        private static final int ROOM = MOST_UNACKED + MOST_WAITING;

        final int[] draft = new int[MOST_PACKET_BYTES];
        int draftLength;
        final Packets packets = new Packets(ROOM);
        int offered;
        int sent;
        int acknowledged;
        boolean voidTold;
        int timer;
        int tries;
        int toSendAgain;

        int wanted;
        boolean nakked;
        boolean nakDue;
        int ackDueIn = NONE;
        final Packets upPackets = new Packets(MOST_KEPT_UP);
        int handedUp;

        int waiting() {
            return offered - sent;
        }

        int unacked() {
            return sent - acknowledged;
        }

        int nextNumber() {
            return by64(sent);
        }

        int ackedNumber() {
            return by64(acknowledged - 1);
        }

        int keptUp() {
            return Math.min(handedUp, MOST_KEPT_UP);
        }

        void addToDraft(int size, long value) {
            for (int i = 0; i < size; i++) {
                draft[draftLength + i] = (int) (value >>> 8 * i) & 255;
            }
            draftLength += size;
        }

        void turnDraftIntoPacket() {
            packets.put(offered % ROOM, draft, 0, draftLength);
            offered++;
            draftLength = 0;
        }

        void writePacket(Frame frame, int kind, int index) {
            frame.writePacket(kind, by64(index), packets, index % ROOM);
        }

        void writeWord(Frame frame, int word) {
            frame.writeWord(word, by64(wanted - 1));
            ackDueIn = NONE;
            if (word == NAK) {
                nakDue = false;
            }
        }

        void takeAcknowledgement(int number) {
            int fresh = by64(number - ackedNumber());
            if (fresh < 1 || fresh > unacked()) {
                return;
            }
            acknowledged += fresh;
            toSendAgain = Math.min(toSendAgain, unacked());
            timer = 0;
            tries = 0;
        }

        void handUp(Frame frame) {
            if (handedUp < MOST_KEPT_UP) {
                upPackets.put(handedUp, frame.bytes, Frame.AHEAD, frame.packetLength());
            }
            handedUp++;
            wanted = by64(wanted + 1);
            nakked = false;
        }

        void oweAck(int inTicks) {
            if (ackDueIn == NONE) {
                ackDueIn = inTicks;
            }
        }

        void oweNak() {
            if (!nakked) {
                nakked = true;
                nakDue = true;
            }
        }

        boolean isQuiet() {
            return waiting() == 0 && unacked() == 0 && ackDueIn == NONE && !nakDue;
        }

        int tell(int what) {
            switch (what) {
                case 0:
                    return waiting();
                case 1:
                    return unacked();
                case 2:
                    return nextNumber();
                case 3:
                    return ackedNumber();
                case 4:
                    return timer;
                case 5:
                    return tries;
                case 6:
                    return toSendAgain;
                case 7:
                    return wanted;
                case 8:
                    return asNumber(nakked);
                case 9:
                    return ackDueIn;
                case 10:
                    return asNumber(nakDue);
                case 11:
                    return offered;
                case 12:
                    return handedUp;
                case 13:
                    return draftLength;
                default:
                    return BAD;
            }
        }

        void copyFrom(End other) {
            System.arraycopy(other.draft, 0, draft, 0, draft.length);
            draftLength = other.draftLength;
            packets.copyFrom(other.packets);
            offered = other.offered;
            sent = other.sent;
            acknowledged = other.acknowledged;
            voidTold = other.voidTold;
            timer = other.timer;
            tries = other.tries;
            toSendAgain = other.toSendAgain;
            wanted = other.wanted;
            nakked = other.nakked;
            nakDue = other.nakDue;
            ackDueIn = other.ackDueIn;
            upPackets.copyFrom(other.upPackets);
            handedUp = other.handedUp;
        }
    }

    /** All that keep() keeps: both ends, both wires, what was set and what was counted. */
    private static final class Link {
        final End[] ends = {new End(), new End()};
        final Wire[] wires = {new Wire(), new Wire()};
        final int[] tallies = new int[QUIET];
        int ticks;
        int trainingLeft;
        int delay = 1;
        int patience = 12;
        int ackDelay = 2;

        int changeDelay(int ticksUnderWay) {
            int before = delay;
            delay = ticksUnderWay;
            return before;
        }

        int changePatience(int ticksUnacked) {
            int before = patience;
            patience = ticksUnacked;
            return before;
        }

        int changeAckDelay(int ticksTillAck) {
            int before = ackDelay;
            ackDelay = ticksTillAck;
            return before;
        }

        /** One tick; tells how many frames came. */
        int passTick() {
            ticks++;
            boolean wasTraining = trainingLeft > 0;
            if (wasTraining) {
                trainingLeft--;
            }
            int came = 0;
            for (int side = 0; side < SIDES; side++) {
                came += receive(wires[side], ends[1 - side]);
            }
            if (wasTraining) {
                return came;
            }
            for (int side = 0; side < SIDES; side++) {
                runTimers(ends[side]);
            }
            // Training that began in this very tick stops the laying, but not the timers.
            for (int side = 0; side < SIDES && trainingLeft == 0; side++) {
                layOneFrame(ends[side], wires[side]);
            }
            return came;
        }

        boolean isQuiet() {
            return trainingLeft == 0 && wires[0].load == 0 && wires[1].load == 0
                    && ends[0].isQuiet() && ends[1].isQuiet();
        }

        void copyFrom(Link other) {
            for (int side = 0; side < SIDES; side++) {
                ends[side].copyFrom(other.ends[side]);
                wires[side].copyFrom(other.wires[side]);
            }
            System.arraycopy(other.tallies, 0, tallies, 0, tallies.length);
            ticks = other.ticks;
            trainingLeft = other.trainingLeft;
            delay = other.delay;
            patience = other.patience;
            ackDelay = other.ackDelay;
        }

        private int receive(Wire wire, End to) {
            for (int came = 0; came < MOST_ON_WIRE; came++) {
                // Looked for anew each time: a frame that comes may clear the wires by training.
                int place = wire.eldestOver(ticks);
                if (place < 0) {
                    return came;
                }
                takeIn(wire.takeOff(place), to);
            }
            return MOST_ON_WIRE;
        }

        private void takeIn(Frame frame, End to) {
            int kind = frame.readAs();
            switch (kind) {
                case DATA:
                    takeInData(frame, to);
                    break;
                case VOID:
                    tallies[CAME_VOID]++;
                    break;
                case ACK:
                case NAK:
                    takeInWord(kind, frame.number(), to);
                    break;
                case SPOILT:
                    tallies[CAME_SPOILT]++;
                    to.oweNak();
                    break;
                default:
                    tallies[CAME_NOTHING]++;
                    break;
            }
        }

        private void takeInData(Frame frame, End to) {
            int ahead = by64(frame.number() - to.wanted);
            if (ahead == 0) {
                tallies[CAME_UP]++;
                to.handUp(frame);
                to.oweAck(ackDelay);
            } else if (ahead >= HALF_OF_NUMBERS) {
                tallies[CAME_REPEAT]++;
                to.oweAck(ackDelay);
            } else {
                tallies[CAME_AHEAD]++;
                to.oweNak();
            }
        }

        private void takeInWord(int word, int number, End to) {
            tallies[CAME_WORD]++;
            if (by64(to.nextNumber() - 1 - number) >= HALF_OF_NUMBERS) {
                tallies[CAME_WRONG]++;
                return;
            }
            to.takeAcknowledgement(number);
            if (word == NAK && to.unacked() > 0) {
                sendAgain(to);
            }
        }

        private void runTimers(End of) {
            if (of.ackDueIn > 0) {
                of.ackDueIn--;
            }
            if (of.unacked() == 0 || of.toSendAgain > 0) {
                return;
            }
            of.timer++;
            if (of.timer >= patience) {
                sendAgain(of);
            }
        }

        private void sendAgain(End from) {
            tallies[SENDINGS_AGAIN]++;
            from.tries++;
            from.timer = 0;
            from.toSendAgain = from.unacked();
            if (from.tries >= MOST_TRIES) {
                from.tries = 0;
                train();
            }
        }

        private void train() {
            tallies[TRAININGS]++;
            trainingLeft = TRAINING_TICKS;
            wires[0].load = 0;
            wires[1].load = 0;
        }

        private void layOneFrame(End from, Wire on) {
            if (from.nakDue) {
                tallies[LAID_NAK]++;
                from.writeWord(on.layOneMore(ticks + delay), NAK);
            } else if (from.ackDueIn == 0) {
                tallies[LAID_ACK]++;
                from.writeWord(on.layOneMore(ticks + delay), ACK);
            } else if (from.toSendAgain > 0) {
                tallies[LAID_AGAIN]++;
                // Nothing new is sent till all are sent again, so these are the youngest unacked.
                from.writePacket(on.layOneMore(ticks + delay), DATA, from.sent - from.toSendAgain);
                from.toSendAgain--;
            } else if (from.unacked() < MOST_UNACKED && from.waiting() > 0) {
                layNewPacket(from, on.layOneMore(ticks + delay));
            }
        }

        private void layNewPacket(End from, Frame frame) {
            if (from.voidTold) {
                tallies[LAID_VOID]++;
                from.writePacket(frame, VOID, from.sent);
                from.voidTold = false;
                return;
            }
            tallies[LAID_FIRST]++;
            from.writePacket(frame, DATA, from.sent);
            from.sent++;
        }
    }
}
