import java.util.ArrayDeque;
import java.util.ArrayList;
import java.util.Arrays;
import java.util.List;
import java.util.zip.CRC32;

/** The document read a second time, in lists that are copied whole, to hold ReplayLink against. */
final class Model {
    private static final int BAD = -1, NO = -2, FULL = -3, NONE = -4;

    private static final class Flying {
        int[] bytes;
        int inTicks;

        Flying(int[] bytes, int inTicks) {
            this.bytes = bytes;
            this.inTicks = inTicks;
        }

        Flying copy() {
            return new Flying(bytes.clone(), inTicks);
        }
    }

    private static final class Sent {
        final int number;
        final int[] packet;
        boolean againToo;

        Sent(int number, int[] packet, boolean againToo) {
            this.number = number;
            this.packet = packet;
            this.againToo = againToo;
        }
    }

    private static final class Side {
        List<Integer> draft = new ArrayList<>();
        ArrayDeque<int[]> waiting = new ArrayDeque<>();
        List<Sent> unacked = new ArrayList<>();
        int next = 0, acked = 63, timer = 0, tries = 0, wanted = 0, offered = 0;
        boolean nakked = false, nakDue = false, voidTold = false;
        Integer ackDue = null;
        List<int[]> up = new ArrayList<>();

        Side copy() {
            Side s = new Side();
            s.draft = new ArrayList<>(draft);
            s.waiting = new ArrayDeque<>(waiting);
            for (Sent one : unacked) {
                s.unacked.add(new Sent(one.number, one.packet, one.againToo));
            }
            s.next = next;
            s.acked = acked;
            s.timer = timer;
            s.tries = tries;
            s.wanted = wanted;
            s.offered = offered;
            s.nakked = nakked;
            s.nakDue = nakDue;
            s.voidTold = voidTold;
            s.ackDue = ackDue;
            s.up = new ArrayList<>(up);
            return s;
        }

        int stillAgain() {
            int n = 0;
            for (Sent one : unacked) {
                n += one.againToo ? 1 : 0;
            }
            return n;
        }
    }

    private static final class State {
        Side[] sides = {new Side(), new Side()};
        List<List<Flying>> wires = new ArrayList<>();
        int[] counts = new int[17];
        int[] settings = {1, 12, 2};

        State() {
            wires.add(new ArrayList<>());
            wires.add(new ArrayList<>());
        }

        State copy() {
            State s = new State();
            for (int i = 0; i < 2; i++) {
                s.sides[i] = sides[i].copy();
                for (Flying one : wires.get(i)) {
                    s.wires.get(i).add(one.copy());
                }
            }
            s.counts = counts.clone();
            s.settings = settings.clone();
            return s;
        }
    }

    private State now = new State();
    private final State[] places = new State[2];

    private static boolean within(int v, int low, int high) {
        return low <= v && v <= high;
    }

    int draft(int end, int n, long v) {
        if (!within(end, 0, 1) || !within(n, 1, 8)) {
            return BAD;
        }
        List<Integer> draft = now.sides[end].draft;
        if (draft.size() + n > 24) {
            return FULL;
        }
        for (int i = 0; i < n; i++, v >>= 8) {
            draft.add((int) Math.floorMod(v, 256L));
        }
        return draft.size();
    }

    int offer(int end) {
        if (!within(end, 0, 1)) {
            return BAD;
        }
        Side s = now.sides[end];
        if (s.draft.isEmpty()) {
            return NO;
        }
        if (s.waiting.size() == 16 || s.offered == 60) {
            return FULL;
        }
        s.waiting.addLast(s.draft.stream().mapToInt(Integer::intValue).toArray());
        s.draft.clear();
        s.offered++;
        return s.waiting.size();
    }

    long check(int end, int what) {
        if (!within(end, 0, 1) || !within(what, 0, 1)) {
            return BAD;
        }
        int[] row = now.sides[end].draft.stream().mapToInt(Integer::intValue).toArray();
        return what == 0 ? crc(row) : Due.shortCheck(row);
    }

    private static long crc(int[] row) {
        CRC32 crc = new CRC32();
        for (int value : row) {
            crc.update(value);
        }
        return crc.getValue();
    }

    int set(int what, int v) {
        int[] low = {1, 1, 0};
        int[] high = {6, 60, 9};
        if (!within(what, 0, 2) || !within(v, low[what], high[what])) {
            return BAD;
        }
        int was = now.settings[what];
        now.settings[what] = v;
        return was;
    }

    int tick(int n) {
        if (!within(n, 1, 200)) {
            return BAD;
        }
        if (now.counts[0] + n > 20000) {
            return FULL;
        }
        int before = framesCame();
        for (int i = 0; i < n; i++) {
            oneTick();
        }
        return framesCame() - before;
    }

    private int framesCame() {
        int[] c = now.counts;
        return c[9] + c[10] + c[11] + c[12] + c[13] + c[15] + c[16];
    }

    int settle(int n) {
        if (!within(n, 1, 400)) {
            return BAD;
        }
        if (now.counts[0] + n > 20000) {
            return FULL;
        }
        int done = 0;
        while (!quiet() && done < n) {
            oneTick();
            done++;
        }
        return done;
    }

    private boolean quiet() {
        boolean quiet = now.counts[1] == 0;
        for (int i = 0; i < 2; i++) {
            Side s = now.sides[i];
            quiet &= s.waiting.isEmpty() && s.unacked.isEmpty() && s.ackDue == null && !s.nakDue
                    && now.wires.get(i).isEmpty();
        }
        return quiet;
    }

    private void oneTick() {
        now.counts[0]++;
        boolean began = now.counts[1] > 0;
        now.counts[1] = Math.max(0, now.counts[1] - 1);
        for (List<Flying> wire : now.wires) {
            for (Flying one : wire) {
                one.inTicks--;
            }
        }
        coming();
        if (!began) {
            for (Side s : now.sides) {
                timers(s);
            }
        }
        if (!began && now.counts[1] == 0) {
            laying(0);
            laying(1);
        }
    }

    private void coming() {
        List<Flying> queue = new ArrayList<>();
        List<Integer> to = new ArrayList<>();
        for (int w = 0; w < 2; w++) {
            for (Flying one : now.wires.get(w)) {
                if (one.inTicks <= 0) {
                    queue.add(one);
                    to.add(1 - w);
                }
            }
            now.wires.get(w).removeAll(queue);
        }
        int trainings = now.counts[2];
        for (int i = 0; i < queue.size() && now.counts[2] == trainings; i++) {
            comes(now.sides[to.get(i)], queue.get(i).bytes);
        }
    }

    private void comes(Side s, int[] frame) {
        int kind = readAs(frame);
        int n = frame[2];
        switch (kind) {
            case 0 -> dataComes(s, n, Arrays.copyOfRange(frame, 3, frame.length - 5));
            case 1 -> now.counts[12]++;
            case 2, 3 -> wordComes(s, n, kind == 3);
            case 4 -> {
                now.counts[15]++;
                nak(s);
            }
            default -> now.counts[16]++;
        }
    }

    private void dataComes(Side s, int n, int[] packet) {
        int d = Math.floorMod(n - s.wanted, 64);
        if (d >= 1 && d <= 31) {
            now.counts[11]++;
            nak(s);
            return;
        }
        if (d == 0) {
            now.counts[9]++;
            s.up.add(packet);
            s.wanted = (s.wanted + 1) % 64;
            s.nakked = false;
        } else {
            now.counts[10]++;
        }
        if (s.ackDue == null) {
            s.ackDue = now.settings[2];
        }
    }

    private static void nak(Side s) {
        s.nakDue |= !s.nakked;
        s.nakked = true;
    }

    private void wordComes(Side s, int n, boolean nak) {
        now.counts[13]++;
        if (Math.floorMod(s.next - 1 - n, 64) >= 32) {
            now.counts[14]++;
            return;
        }
        int d = Math.floorMod(n - s.acked, 64);
        if (d >= 1 && d <= s.unacked.size()) {
            s.unacked.subList(0, d).clear();
            s.acked = n;
            s.timer = 0;
            s.tries = 0;
        }
        if (nak && !s.unacked.isEmpty()) {
            sendsAgain(s);
        }
    }

    private void sendsAgain(Side s) {
        now.counts[3]++;
        s.tries++;
        s.timer = 0;
        for (Sent one : s.unacked) {
            one.againToo = true;
        }
        if (s.tries == 4) {
            s.tries = 0;
            now.counts[1] = 5;
            now.counts[2]++;
            now.wires.get(0).clear();
            now.wires.get(1).clear();
        }
    }

    private void timers(Side s) {
        if (s.ackDue != null) {
            s.ackDue = Math.max(0, s.ackDue - 1);
        }
        if (!s.unacked.isEmpty() && s.stillAgain() == 0) {
            s.timer++;
            if (s.timer >= now.settings[1]) {
                sendsAgain(s);
            }
        }
    }

    private void laying(int e) {
        Side s = now.sides[e];
        int ahead = (s.wanted + 63) % 64;
        if (s.nakDue) {
            s.nakDue = false;
            s.ackDue = null;
            lay(e, 8, Due.wordFrame(16, ahead));
        } else if (s.ackDue != null && s.ackDue == 0) {
            s.ackDue = null;
            lay(e, 7, Due.wordFrame(0, ahead));
        } else if (s.stillAgain() > 0) {
            for (Sent one : s.unacked) {
                if (one.againToo) {
                    one.againToo = false;
                    lay(e, 5, Due.dataFrame(one.number, one.packet));
                    return;
                }
            }
        } else if (s.unacked.size() < 8 && !s.waiting.isEmpty()) {
            if (s.voidTold) {
                s.voidTold = false;
                lay(e, 6, Due.voidFrame(s.next, s.waiting.getFirst()));
            } else {
                int[] packet = s.waiting.removeFirst();
                s.unacked.add(new Sent(s.next, packet, false));
                lay(e, 4, Due.dataFrame(s.next, packet));
                s.next = (s.next + 1) % 64;
            }
        }
    }

    private void lay(int wire, int what, int[] frame) {
        now.counts[what]++;
        if (now.wires.get(wire).size() == 12) {
            now.wires.get(wire).remove(0);
        }
        now.wires.get(wire).add(new Flying(frame, now.settings[0]));
    }

    /** A frame is what it can be made anew as. */
    private static int readAs(int[] f) {
        if (f[0] == 92) {
            for (int kind = 0; kind < 2; kind++) {
                if (f[2] < 64 && Arrays.equals(f, Due.wordFrame(16 * kind, f[2]))) {
                    return 2 + kind;
                }
            }
            return 5;
        }
        if (f.length < 9 || f[2] > 63) {
            return 4;
        }
        int[] packet = Arrays.copyOfRange(f, 3, f.length - 5);
        if (Arrays.equals(f, Due.dataFrame(f[2], packet))) {
            return 0;
        }
        return Arrays.equals(f, Due.voidFrame(f[2], packet)) ? 1 : 4;
    }

    int voids(int end) {
        if (!within(end, 0, 1)) {
            return BAD;
        }
        boolean was = now.sides[end].voidTold;
        now.sides[end].voidTold = true;
        return was ? 1 : 0;
    }

    private Flying frameAt(int wire, int place) {
        if (!within(wire, 0, 1) || !within(place, 0, now.wires.get(wire).size() - 1)) {
            return null;
        }
        return now.wires.get(wire).get(place);
    }

    int bend(int wire, int place, int i, int mask) {
        Flying f = frameAt(wire, place);
        if (f == null || !within(i, 0, f.bytes.length - 1) || !within(mask, 1, 255)) {
            return BAD;
        }
        return f.bytes[i] = f.bytes[i] ^ mask;
    }

    int lose(int wire, int place) {
        if (frameAt(wire, place) == null) {
            return BAD;
        }
        now.wires.get(wire).remove(place);
        return now.wires.get(wire).size();
    }

    int twice(int wire, int place) {
        Flying f = frameAt(wire, place);
        if (f == null) {
            return BAD;
        }
        if (now.wires.get(wire).size() == 12) {
            return FULL;
        }
        now.wires.get(wire).add(place + 1, f.copy());
        return now.wires.get(wire).size();
    }

    int wire(int wire, int place, int what) {
        if (place == -1 && within(wire, 0, 1)) {
            return now.wires.get(wire).size();
        }
        Flying f = frameAt(wire, place);
        if (f == null || !within(what, 0, 35)) {
            return BAD;
        }
        return switch (what) {
            case 0 -> f.bytes.length;
            case 1 -> f.inTicks;
            case 2 -> readAs(f.bytes);
            default -> what - 3 < f.bytes.length ? f.bytes[what - 3] : NONE;
        };
    }

    int end(int end, int what) {
        if (!within(end, 0, 1) || !within(what, 0, 13)) {
            return BAD;
        }
        Side s = now.sides[end];
        int[] all = {s.waiting.size(), s.unacked.size(), s.next, s.acked, s.timer, s.tries,
            s.stillAgain(), s.wanted, s.nakked ? 1 : 0, s.ackDue == null ? NONE : s.ackDue,
            s.nakDue ? 1 : 0, s.offered, s.up.size(), s.draft.size()};
        return all[what];
    }

    int up(int end, int i) {
        if (!within(end, 0, 1) || i < 0) {
            return BAD;
        }
        List<int[]> up = now.sides[end].up;
        return i < 60 && i < up.size() ? up.get(i).length : NONE;
    }

    int upByte(int end, int i, int k) {
        if (k < 0) {
            return BAD;
        }
        int length = up(end, i);
        return length < 0 ? length : k < length ? now.sides[end].up.get(i)[k] : NONE;
    }

    int count(int what) {
        if (!within(what, 0, 17)) {
            return BAD;
        }
        return what < 17 ? now.counts[what] : quiet() ? 1 : 0;
    }

    int keep(int k) {
        if (!within(k, 0, 1)) {
            return BAD;
        }
        int was = places[k] == null ? 0 : 1;
        places[k] = now.copy();
        return was;
    }

    int again(int k) {
        if (!within(k, 0, 1)) {
            return BAD;
        }
        if (places[k] == null) {
            return NO;
        }
        now = places[k].copy();
        return now.counts[0];
    }
}
