import java.util.ArrayList;
import java.util.List;
import java.util.function.Consumer;

/** States that an object can be brought to, and whether two objects tell and do the same. */
final class Twins implements Names {
    /** What is asked of a twin; each part is asked of a new one, for the 512 calls' sake. */
    private interface Part {
        List<Long> askedOf(Counted x);
    }

    private static final List<Part> PARTS = List.of(
            Twins::countsAndEnds,
            x -> handedUp(x, 0), x -> handedUp(x, 1),
            x -> frames(x, 0, 0), x -> frames(x, 0, 6), x -> frames(x, 1, 0), x -> frames(x, 1, 6),
            Twins::settingsAndVoids,
            x -> kept(x, 0), x -> kept(x, 1),
            Twins::bytesOfDrafts,
            Twins::whatFollows);

    private Twins() {
    }

    /** Two objects that were so made tell and do the same, by all that can be asked. */
    static void areAlike(String name, Consumer<Counted> want, Consumer<Counted> got) {
        for (Part part : PARTS) {
            tellAlike(name, part, want, got);
        }
    }

    /** Two objects that were so made tell the same of their counts and ends. */
    static void tellAlike(String name, Consumer<Counted> want, Consumer<Counted> got) {
        tellAlike(name, Twins::countsAndEnds, want, got);
    }

    private static void tellAlike(
            String name, Part part, Consumer<Counted> want, Consumer<Counted> got) {
        List<Long> due = part.askedOf(made(want));
        List<Long> told = part.askedOf(made(got));
        for (int i = 0; i < due.size(); i++) {
            Due.is(name + ", answer " + i, told.get(i), due.get(i));
        }
    }

    private static Counted made(Consumer<Counted> make) {
        Counted x = new Counted();
        make.accept(x);
        return x;
    }

    /** Drafts, packets that wait and are unacked, frames, a VOID told. */
    static void makeBusy(Counted x) {
        x.set(DELAY, 3);
        x.set(R, 5);
        x.set(A, 4);
        Due.offerOnes(x, 0, 1, 7);
        Due.offerOnes(x, 1, 21, 24);
        x.tick(4);
        x.bend(0, 1, 3, 8);
        x.twice(1, 0);
        x.tick(2);
        x.draft(0, 8, 0x0102030405060708L);
        x.draft(0, 8, 0x1112131415161718L);
        x.draft(0, 1, 77);
        x.voids(1);
    }

    /** 16 wait at both ENDS, END 0 has a draft of 24 bytes, END 1 none; both wires have 12. */
    static void makeFull(Counted x) {
        x.set(DELAY, 6);
        Due.offer(x, 0, 1);
        Due.offer(x, 1, 2, 3);
        x.tick(1);
        for (int i = 1; i < 12; i++) {
            x.twice(0, 0);
            x.twice(1, i - 1);
        }
        Due.offerOnes(x, 0, 1, 16);
        Due.offerOnes(x, 1, 1, 16);
        x.draft(0, 8, 0x0102030405060708L);
        x.draft(0, 8, 0x1112131415161718L);
        x.draft(0, 8, 0x2122232425262728L);
    }

    /** END 1 has offered its 60 packets; the last ones wait, and a draft is there. */
    static void makeSixty(Counted x) {
        for (int i = 1; i <= 60; i++) {
            Due.offer(x, 1, i);
            if (i % 16 == 0) {
                x.settle(400);
            }
        }
        x.tick(3);
        x.draft(1, 3, 0x030201L);
    }

    /** R 2 is over a fourth time in tick 9: a NAK is due, an ACK is DUE, a timer is under way. */
    static void makeTraining(Counted x) {
        x.set(DELAY, 2);
        x.set(R, 2);
        x.set(A, 9);
        Due.offer(x, 0, 1);
        x.tick(7);
        x.bend(0, 0, 3, 1);
        Due.offer(x, 1, 7);
        x.tick(2);
        x.set(R, 30);
        Due.is("training", x.count(TRAINING), 5);
        x.voids(0);
    }

    /** 20000 TICKS are over; a packet waits, another is unacked and on its way. */
    static void makeOld(Counted x) {
        for (int i = 0; i < 99; i++) {
            x.tick(200);
        }
        x.tick(199);
        x.set(DELAY, 6);
        Due.offerOnes(x, 0, 1, 2);
        x.tick(1);
        Due.is("20000", x.count(TICKS), 20000);
    }

    private static List<Long> countsAndEnds(Counted x) {
        List<Long> all = new ArrayList<>();
        for (int what = 0; what <= 17; what++) {
            all.add((long) x.count(what));
        }
        for (int side = 0; side < 2; side++) {
            for (int what = 0; what <= 13; what++) {
                all.add((long) x.end(side, what));
            }
            all.add(x.check(side, 0));
            all.add((long) x.wire(side, -1, 0));
        }
        return all;
    }

    private static List<Long> handedUp(Counted x, int end) {
        List<Long> all = new ArrayList<>();
        for (int i = 0; i < 61; i++) {
            all.add((long) x.up(end, i));
            all.add((long) x.upByte(end, i, 0));
        }
        return all;
    }

    private static List<Long> frames(Counted x, int wire, int from) {
        List<Long> all = new ArrayList<>();
        for (int place = from; place < from + 6; place++) {
            for (int what = 0; what < 13; what++) {
                all.add((long) x.wire(wire, place, what));
            }
        }
        return all;
    }

    private static List<Long> settingsAndVoids(Counted x) {
        List<Long> all = new ArrayList<>();
        for (int what = 0; what < 3; what++) {
            all.add((long) x.set(what, 1));
        }
        for (int end = 0; end < 2; end++) {
            all.add((long) x.voids(end));
        }
        return all;
    }

    private static List<Long> kept(Counted x, int k) {
        List<Long> all = new ArrayList<>();
        all.add((long) x.again(k));
        all.addAll(countsAndEnds(x));
        all.add((long) x.keep(k));
        all.add((long) x.keep(1 - k));
        return all;
    }

    /** The drafts as they come up at the other end, where they can be offered. */
    private static List<Long> bytesOfDrafts(Counted x) {
        List<Long> all = new ArrayList<>();
        for (int end = 0; end < 2; end++) {
            all.add((long) x.offer(end));
            x.settle(200);
            int last = x.end(1 - end, HANDED_UP) - 1;
            for (int k = 0; k < 24; k++) {
                all.add((long) x.upByte(1 - end, last, k));
            }
        }
        return all;
    }

    private static List<Long> whatFollows(Counted x) {
        List<Long> all = new ArrayList<>();
        for (int i = 0; i < 12; i++) {
            all.add((long) x.tick(1));
            for (int wire = 0; wire < 2; wire++) {
                all.add((long) x.wire(wire, -1, 0));
                all.add((long) x.wire(wire, 0, READ));
                all.add((long) x.wire(wire, 0, BYTES + 2));
            }
        }
        all.add((long) x.settle(400));
        all.addAll(countsAndEnds(x));
        return all;
    }
}
