import java.util.Arrays;

/**
 * For each promise a test of each boundary that its sentences name: the last number that is taken
 * and the first that is refused, the full place and the one ahead of it.
 */
public final class EdgesTest implements Names {
    private static final int[] NO_SIDES = {-1, 2, LOWEST, HIGHEST};

    private EdgesTest() {
    }

    public static void main(String[] args) {
        draftTakes1To8Bytes();
        draftTakesTheLowestFirst();
        draftIsFullAt24();
        offerNeedsADraft();
        offerIsFullAt16();
        offerIsFullAt60();
        offerIsFullAt16And60();
        checkIs0Or1();
        setTakesItsRanges();
        tickTakes1To200();
        tickIsFullAt20000();
        tickTellsWhatCame();
        settleTakes1To400();
        settleIsFullAt20000();
        settleStopsAtQuiet();
        voidsIsToldOnce();
        bendTakesFramesOnly();
        bendTakesBytesOfTheFrame();
        bendTakesMasks1To255();
        loseTakesFramesOnly();
        loseLeavesTheOthers();
        twiceIsFullAt12();
        twiceCountsEachWire();
        twiceStandsRightBehind();
        layingFindsAPlaceAt11And12();
        layingOnAFullWireLosesWhatIsLate();
        layingAWordOnAFullWire();
        wireTakesPlacesFromMinus1();
        wireTakesWhat0To35();
        wireTellsNoneBehindTheFrame();
        endTakesWhat0To13();
        upTakesFrom0();
        upKeepsTheFirst60();
        upByteTakesFrom0();
        countTakesWhat0To17();
        keepTakes0And1();
        againNeedsWhatWasKept();
        placesKeepWhatTheyHave();
        Due.finish();
    }

    /** Promise 2: "n (1 to 8) bytes of v", of an END. */
    private static void draftTakes1To8Bytes() {
        Counted x = new Counted();
        for (int n : new int[] {LOWEST, -1, 0, 9, 10, HIGHEST}) {
            Due.is("draft of " + n, x.draft(0, n, 1), BAD);
        }
        for (int end : NO_SIDES) {
            Due.is("draft at " + end, x.draft(end, 1, 1), BAD);
        }
        Due.is("nothing yet", x.end(0, DRAFT) + x.end(1, DRAFT), 0);
        Due.is("draft of 1", x.draft(0, 1, 1), 1);
        Due.is("draft of 8", x.draft(0, 8, 1), 9);
        for (int n = 1; n <= 8; n++) {
            Counted y = new Counted();
            Due.is("draft of " + n, y.draft(1, n, -1), n);
            Due.is("draft of " + n, y.end(1, DRAFT), n);
            Due.is("the other end", y.end(0, DRAFT), 0);
        }
    }

    /** Promise 2: "the lowest first, come behind the DRAFT". */
    private static void draftTakesTheLowestFirst() {
        for (int n = 1; n <= 8; n++) {
            Counted x = new Counted();
            x.draft(0, 1, 200);
            x.draft(0, n, 0xF8E7D6C5B4A39281L);
            x.offer(0);
            x.settle(9);
            int[] all = {200, 0x81, 0x92, 0xA3, 0xB4, 0xC5, 0xD6, 0xE7, 0xF8};
            Due.upIs(n + " bytes", x, 1, 0, Arrays.copyOf(all, n + 1));
        }
    }

    /** Promise 2: "FULL: 24". */
    private static void draftIsFullAt24() {
        for (int n = 1; n <= 8; n++) {
            Counted x = new Counted();
            // One byte more than leaves room for n.
            for (int i = 0; i < 25 - n; i++) {
                Due.is("a byte", x.draft(0, 1, i), i + 1);
            }
            Due.is("to 25 by " + n, x.draft(0, n, 0), FULL);
            Due.is("as it was", x.end(0, DRAFT), 25 - n);
            if (n > 1) {
                Due.is("to 24 by one fewer", x.draft(0, n - 1, 0), 24);
            }
            Due.is("to 24", x.end(0, DRAFT), 24);
            Due.is("past 24", x.draft(0, 1, 0), FULL);
            Due.is("past 24 by eight", x.draft(0, 8, 0), FULL);
            Due.is("the other end", x.draft(1, n, 0), n);
            Due.is("it can be offered", x.offer(0), 1);
            Due.is("there is room again", x.draft(0, 1, 0), 1);
        }
    }

    /** Promise 3: "NO: it is empty", of an END. */
    private static void offerNeedsADraft() {
        Counted x = new Counted();
        for (int end : NO_SIDES) {
            Due.is("offer at " + end, x.offer(end), BAD);
        }
        Due.is("empty", x.offer(0), NO);
        x.draft(1, 1, 1);
        Due.is("the other end's is not", x.offer(0), NO);
        Due.is("one byte", x.offer(1), 1);
        Due.is("empty behind it", x.offer(1), NO);
        Due.is("one waits", x.end(1, WAITING), 1);
    }

    /** Promise 3: "FULL: 16". */
    private static void offerIsFullAt16() {
        Counted x = new Counted();
        for (int i = 1; i <= 16; i++) {
            Due.is("how many wait", Due.offer(x, 0, i), i);
        }
        Due.is("the 17th", Due.offer(x, 0, 17), FULL);
        Due.ends("as it was", x, 0, 16, 0, 0, 63, 0, 0, 0, 0, 0, NONE, 0, 16, 0, 1);
        x.tick(1);
        Due.is("one went", x.offer(0), 16);
        x.settle(400);
        Due.is("all came", x.end(1, HANDED_UP), 17);
        Due.upIs("the 17th", x, 1, 16, 17);
    }

    /** Promise 3: "FULL: .. 60", though fewer than 16 wait. */
    private static void offerIsFullAt60() {
        Counted x = sixty(15, 45);
        Due.is("the 60th", x.end(0, OFFERED), 60);
        Due.is("15 wait", x.end(0, WAITING), 15);
        Due.is("the 61st", Due.offer(x, 0, 61), FULL);
        Due.is("the 60th", x.end(0, OFFERED), 60);
        Due.is("15 wait", x.end(0, WAITING), 15);
        Due.is("its draft stays", x.end(0, DRAFT), 1);
        x.settle(400);
        Due.is("the 61st, none waits", x.offer(0), FULL);
        Due.is("60 came", x.end(1, HANDED_UP), 60);
        Due.upIs("the 60th", x, 1, 59, 60);
        Counted y = sixty(15, 44);
        Due.is("59", y.end(0, OFFERED), 59);
        Due.is("the 60th", Due.offer(y, 0, 60), 16);
        Due.is("the 61st", Due.offer(y, 0, 61), FULL);
    }

    /** END 0 has offered so many that settled, by sixteens, and so many more that wait. */
    private static Counted sixty(int waiting, int settled) {
        Counted x = new Counted();
        for (int i = 1; i <= settled; i++) {
            Due.offer(x, 0, i);
            if (i % 16 == 0) {
                x.settle(400);
            }
        }
        x.settle(400);
        Due.offerOnes(x, 0, settled + 1, settled + waiting);
        return x;
    }

    private static void offerIsFullAt16And60() {
        Counted x = sixty(16, 44);
        Due.is("the 60th", x.end(0, OFFERED), 60);
        Due.is("16 wait", x.end(0, WAITING), 16);
        Due.is("empty, though both are full", x.offer(0), NO);
        Due.is("the 61st", Due.offer(x, 0, 61), FULL);
        x.tick(1);
        Due.is("15 wait", x.end(0, WAITING), 15);
        Due.is("the 61st still", x.offer(0), FULL);
    }

    /** Promise 4: "CHECK (what = 0), SHORT CHECK (1) of a DRAFT". */
    private static void checkIs0Or1() {
        Counted x = new Counted();
        x.draft(1, 1, 255);
        for (int what : new int[] {LOWEST, -1, 2, HIGHEST}) {
            Due.is("check of " + what, x.check(1, what), BAD);
        }
        for (int end : NO_SIDES) {
            Due.is("check at " + end, x.check(end, 0), BAD);
            Due.is("check at " + end, x.check(end, 1), BAD);
        }
        Due.is("CHECK", x.check(1, 0), 0xFF000000L);
        Due.is("SHORT CHECK", x.check(1, 1), 0xFF00L);
        Due.is("an empty one", x.check(0, 0), 0);
        Due.is("an empty one", x.check(0, 1), 0);
    }

    /** Promise 5: "0 DELAY (1 to 6), 1 R (1 to 60), 2 A (0 to 9) become v: what it was". */
    private static void setTakesItsRanges() {
        int[] low = {1, 1, 0};
        int[] high = {6, 60, 9};
        int[] was = {1, 12, 2};
        for (int what = 0; what < 3; what++) {
            Counted x = new Counted();
            for (int v : new int[] {LOWEST, -1, low[what] - 1, high[what] + 1, HIGHEST}) {
                Due.is("set " + what + " to " + v, x.set(what, v), BAD);
            }
            Due.is("what it was", x.set(what, low[what]), was[what]);
            for (int v = low[what]; v <= high[what]; v++) {
                Due.is("set " + what + " to " + v, x.set(what, v), Math.max(v - 1, low[what]));
            }
            Due.is("the highest", x.set(what, high[what] + 1), BAD);
            Due.is("the highest stays", x.set(what, high[what]), high[what]);
            for (int other = 0; other < 3; other++) {
                Due.is("the others stay", x.set(other, 1), other == what ? high[what] : was[other]);
            }
        }
        Counted x = new Counted();
        for (int what : new int[] {LOWEST, -1, 3, HIGHEST}) {
            Due.is("set " + what, x.set(what, 1), BAD);
        }
    }

    /** Promise 6: "n TICKS (1 to 200)". */
    private static void tickTakes1To200() {
        Counted x = new Counted();
        for (int n : new int[] {LOWEST, -1, 0, 201, 400, HIGHEST}) {
            Due.is("tick " + n, x.tick(n), BAD);
        }
        Due.is("no tick", x.count(TICKS), 0);
        Due.is("tick 1", x.tick(1), 0);
        Due.is("one", x.count(TICKS), 1);
        Due.is("tick 200", x.tick(200), 0);
        Due.is("200 more", x.count(TICKS), 201);
    }

    private static Counted after19800() {
        Counted x = new Counted();
        for (int i = 0; i < 99; i++) {
            x.tick(200);
        }
        Due.is("19800", x.count(TICKS), 19800);
        return x;
    }

    /** Promise 6: "FULL: there would be more than 20000 in all". */
    private static void tickIsFullAt20000() {
        Counted x = after19800();
        Due.is("to 20000", x.tick(200), 0);
        Due.is("20000", x.count(TICKS), 20000);
        Due.is("to 20001", x.tick(1), FULL);
        Due.is("20000 still", x.count(TICKS), 20000);
        Counted y = after19800();
        Due.offer(y, 0, 1);
        y.tick(1);
        Due.is("to 20001", y.tick(200), FULL);
        Due.is("19801 still", y.count(TICKS), 19801);
        Due.is("nothing came", y.wire(0, 0, IN_TICKS), 1);
        Due.is("to 20000", y.tick(199), 2);
        Due.is("20000", y.count(TICKS), 20000);
        Due.is("to 20001", y.tick(1), FULL);
    }

    /** Promise 6: "how many FRAMES came": none, one, as many as two wires hold. */
    private static void tickTellsWhatCame() {
        Counted x = new Counted();
        Due.is("none", x.tick(1), 0);
        Due.offer(x, 0, 1);
        Due.offer(x, 1, 2);
        x.tick(1);
        for (int wire = 0; wire < 2; wire++) {
            for (int there = 2; there <= 12; there++) {
                x.twice(wire, 0);
            }
        }
        Due.is("24 in one tick", x.tick(1), 24);
        Due.is("two ACKs in many", x.tick(200), 2);
        Due.is("none", x.tick(200), 0);
    }

    /** Promise 7: "n (1 to 400) at most". */
    private static void settleTakes1To400() {
        Counted x = new Counted();
        Due.offer(x, 0, 1);
        for (int n : new int[] {LOWEST, -1, 0, 401, HIGHEST}) {
            Due.is("settle " + n, x.settle(n), BAD);
        }
        Due.is("no tick", x.count(TICKS), 0);
        Due.is("settle 1", x.settle(1), 1);
        Due.is("settle 400", x.settle(400), 3);
        // With R 1 and DELAY 6 each training clears the wires before a frame has come.
        Counted y = new Counted();
        y.set(R, 1);
        y.set(DELAY, 6);
        Due.offer(y, 0, 1);
        Due.is("never quiet", y.settle(400), 400);
        Due.is("400", y.count(TICKS), 400);
    }

    /** Promise 7: "FULL: with n there would be more than 20000 in all". */
    private static void settleIsFullAt20000() {
        Counted x = after19800();
        Due.is("to 20001, though quiet", x.settle(201), FULL);
        Due.is("to 20000, quiet", x.settle(200), 0);
        Due.offer(x, 0, 1);
        Due.is("to 20001", x.settle(201), FULL);
        Due.is("to 20200", x.settle(400), FULL);
        Due.is("19800 still", x.count(TICKS), 19800);
        Due.is("one waits still", x.end(0, WAITING), 1);
        Due.is("to 20000", x.settle(200), 4);
        Due.is("19804", x.count(TICKS), 19804);
        x.tick(196);
        Due.is("to 20001", x.settle(1), FULL);
    }

    /** Promise 7: "TICKS until it is QUIET, .. how many". */
    private static void settleStopsAtQuiet() {
        // Laid, come, an ACK laid, come: four ticks.
        for (int n = 1; n <= 5; n++) {
            Counted x = new Counted();
            Due.is("quiet", x.settle(n), 0);
            Due.offer(x, 0, 1);
            Due.is("at most " + n, x.settle(n), Math.min(n, 4));
            Due.is("ticks", x.count(TICKS), Math.min(n, 4));
            Due.is("quiet by the fourth", x.count(QUIET), n >= 4 ? 1 : 0);
            Due.is("the rest", x.settle(400), Math.max(4 - n, 0));
            Due.is("quiet", x.settle(1), 0);
        }
    }

    /** Promise 8: "1, if that was told already, else 0". */
    private static void voidsIsToldOnce() {
        Counted x = new Counted();
        for (int end : NO_SIDES) {
            Due.is("voids " + end, x.voids(end), BAD);
        }
        Due.is("first", x.voids(0), 0);
        Due.is("already", x.voids(0), 1);
        Due.is("the other end", x.voids(1), 0);
        Due.offer(x, 0, 1);
        x.tick(1);
        Due.is("a VOID", x.count(LAID_VOID), 1);
        Due.is("one, though told twice", x.voids(0), 0);
        x.tick(1);
        Due.is("a second VOID", x.count(LAID_VOID), 2);
        Due.is("none first", x.count(LAID_FIRST), 0);
        x.tick(1);
        Due.is("the packet", x.count(LAID_FIRST), 1);
        Due.is("the other end's is told still", x.voids(1), 1);
    }

    /** WIRE 0 has three frames, of 9, 10 and 32 bytes, to come in 4, 5 and 6 TICKS; WIRE 1 none. */
    private static Counted threeOnWire0() {
        Counted x = new Counted();
        x.set(DELAY, 6);
        x.set(R, 60);
        int[] most = new int[24];
        Arrays.fill(most, 85);
        Due.offer(x, 0, 1);
        Due.offer(x, 0, 2, 3);
        Due.offer(x, 0, most);
        x.tick(3);
        return x;
    }

    /** Promise 9: "of a FRAME on a WIRE". */
    private static void bendTakesFramesOnly() {
        Counted x = threeOnWire0();
        for (int wire : NO_SIDES) {
            Due.is("bend on " + wire, x.bend(wire, 0, 0, 1), BAD);
        }
        Due.is("an empty wire", x.bend(1, 0, 0, 1), BAD);
        for (int place : new int[] {LOWEST, -2, -1, 3, 11, 12, HIGHEST}) {
            Due.is("bend at " + place, x.bend(0, place, 0, 1), BAD);
        }
        for (int place = 0; place < 3; place++) {
            Due.is("bend at " + place, x.bend(0, place, 0, 1), 250);
            Due.is("bent at " + place, x.wire(0, place, BYTES), 250);
        }
    }

    /** Promise 9: "Byte i of a FRAME". */
    private static void bendTakesBytesOfTheFrame() {
        Counted x = threeOnWire0();
        int[] length = {9, 10, 32};
        for (int place = 0; place < 3; place++) {
            Due.is("length", x.wire(0, place, LENGTH), length[place]);
            for (int i : new int[] {LOWEST, -1, length[place], 32, 33, HIGHEST}) {
                Due.is("byte " + i + " of " + length[place], x.bend(0, place, i, 1), BAD);
            }
            Due.is("the last byte", x.bend(0, place, length[place] - 1, 1), 252);
            Due.is("the last byte", x.wire(0, place, BYTES + length[place] - 1), 252);
            Due.is("the first byte", x.bend(0, place, 0, 1), 250);
            Due.is("length", x.wire(0, place, LENGTH), length[place]);
        }
    }

    /** Promise 9: "the bits of mask (1 to 255) turned: the byte then". */
    private static void bendTakesMasks1To255() {
        Counted x = threeOnWire0();
        for (int mask : new int[] {LOWEST, -1, 0, 256, 257, HIGHEST}) {
            Due.is("mask " + mask, x.bend(0, 2, 3, mask), BAD);
        }
        Due.is("as it was", x.wire(0, 2, BYTES + 3), 85);
        int due = 85;
        for (int mask = 1; mask <= 255; mask++) {
            due ^= mask;
            Due.is("mask " + mask, x.bend(0, 2, 3, mask), due);
        }
        Due.is("the byte then", x.wire(0, 2, BYTES + 3), due);
    }

    /** Promise 10: "A FRAME is lost: how many are left on the WIRE. BAD." */
    private static void loseTakesFramesOnly() {
        Counted x = threeOnWire0();
        for (int wire : NO_SIDES) {
            Due.is("lose on " + wire, x.lose(wire, 0), BAD);
        }
        Due.is("an empty wire", x.lose(1, 0), BAD);
        for (int place : new int[] {LOWEST, -2, -1, 3, 11, 12, HIGHEST}) {
            Due.is("lose at " + place, x.lose(0, place), BAD);
        }
        Due.is("three", x.wire(0, -1, 0), 3);
        Due.is("the last", x.lose(0, 2), 2);
        Due.is("it was there", x.lose(0, 2), BAD);
        Due.is("the first", x.lose(0, 0), 1);
        Due.is("the only one", x.lose(0, 0), 0);
        Due.is("an empty wire", x.lose(0, 0), BAD);
        Due.is("none", x.wire(0, -1, 0), 0);
    }

    private static void loseLeavesTheOthers() {
        int[] length = {9, 10, 32};
        for (int lost = 0; lost < 3; lost++) {
            Counted x = threeOnWire0();
            Due.is("two are left", x.lose(0, lost), 2);
            for (int place = 0; place < 2; place++) {
                int was = place < lost ? place : place + 1;
                Due.is("length", x.wire(0, place, LENGTH), length[was]);
                Due.is("time", x.wire(0, place, IN_TICKS), 4 + was);
                Due.is("number", x.wire(0, place, BYTES + 2), was);
            }
            Due.is("no third", x.wire(0, 2, LENGTH), BAD);
            Due.is("it does not come", x.tick(3 + 3), 2);
        }
    }

    /** Promise 11: "FULL: 12". */
    private static void twiceIsFullAt12() {
        Counted x = threeOnWire0();
        for (int wire : NO_SIDES) {
            Due.is("twice on " + wire, x.twice(wire, 0), BAD);
        }
        Due.is("an empty wire", x.twice(1, 0), BAD);
        for (int place : new int[] {LOWEST, -2, -1, 3, 11, 12, HIGHEST}) {
            Due.is("twice at " + place, x.twice(0, place), BAD);
        }
        for (int there = 4; there <= 12; there++) {
            Due.is("the last", x.twice(0, there - 2), there);
        }
        for (int place = 0; place < 12; place++) {
            Due.is("full", x.twice(0, place), FULL);
        }
        Due.is("no such frame", x.twice(0, 12), BAD);
        Due.is("twelve", x.wire(0, -1, 0), 12);
        Due.is("one lost", x.lose(0, 5), 11);
        Due.is("no such frame", x.twice(0, 11), BAD);
        Due.is("one more", x.twice(0, 0), 12);
        Due.is("full", x.twice(0, 0), FULL);
    }

    private static void twiceCountsEachWire() {
        Counted x = new Counted();
        Due.offer(x, 0, 1);
        Due.offer(x, 1, 2);
        x.tick(1);
        for (int there = 2; there <= 12; there++) {
            Due.is("on WIRE 0", x.twice(0, 0), there);
        }
        Due.is("WIRE 0 is full", x.twice(0, 0), FULL);
        for (int there = 2; there <= 12; there++) {
            Due.is("on WIRE 1", x.twice(1, 0), there);
        }
        Due.is("WIRE 1 is full", x.twice(1, 0), FULL);
    }

    /** Promise 11: "the other one right behind it, to come in the same TICK". */
    private static void twiceStandsRightBehind() {
        for (int place = 0; place < 3; place++) {
            Counted x = threeOnWire0();
            x.bend(0, place, 1, 8);
            Due.is("four", x.twice(0, place), 4);
            for (int at = 0; at < 4; at++) {
                int was = at > place ? at - 1 : at;
                Due.is("number", x.wire(0, at, BYTES + 2), was);
                Due.is("time", x.wire(0, at, IN_TICKS), 4 + was);
                Due.is("length", x.wire(0, at, LENGTH), new int[] {9, 10, 32}[was]);
                Due.is("bent as it was", x.wire(0, at, BYTES + 1), was == place ? 8 : 0);
            }
            x.bend(0, place + 1, 2, 128);
            Due.is("each for itself", x.wire(0, place, BYTES + 2), place);
            Due.is("none comes", x.tick(3 + place), place);
            Due.is("both come", x.tick(1), 2);
        }
    }

    /** Promise 11: "(LAYING finds a place always: if there are 12, the eldest is lost.)" */
    private static void layingFindsAPlaceAt11And12() {
        for (int there = 10; there <= 12; there++) {
            Counted x = threeOnWire0();
            Due.offer(x, 0, 99);
            for (int i = 3; i < there; i++) {
                x.twice(0, 1);
            }
            Due.is("there are", x.wire(0, -1, 0), there);
            Due.is("none comes", x.tick(1), 0);
            Due.is("there are then", x.wire(0, -1, 0), Math.min(there + 1, 12));
            Due.is("the eldest", x.wire(0, 0, BYTES + 2), there == 12 ? 1 : 0);
            Due.frameIs("the new one", x, 0, Math.min(there, 11), Due.dataFrame(3, 99));
            Due.is("its time", x.wire(0, Math.min(there, 11), IN_TICKS), 6);
            Due.is("those of long ago", x.tick(2), 0);
            Due.is("the eldest comes", x.tick(1), there == 12 ? 0 : 1);
        }
    }

    /** The eldest is the one in the first place, though others come ahead of it. */
    private static void layingOnAFullWireLosesWhatIsLate() {
        Counted x = new Counted();
        x.set(DELAY, 6);
        Due.offerOnes(x, 0, 1, 3);
        x.tick(1);
        x.set(DELAY, 2);
        x.tick(1);
        for (int i = 2; i < 12; i++) {
            x.twice(0, 1);
        }
        Due.is("twelve", x.wire(0, -1, 0), 12);
        Due.is("the first is late", x.wire(0, 0, IN_TICKS), 5);
        x.tick(1);
        Due.is("twelve", x.wire(0, -1, 0), 12);
        Due.is("the late one is lost", x.wire(0, 0, BYTES + 2), 1);
        Due.is("the new one", x.wire(0, 11, BYTES + 2), 2);
        Due.is("eleven come", x.tick(1), 11);
    }

    private static void layingAWordOnAFullWire() {
        Counted x = new Counted();
        x.set(R, 60);
        x.set(A, 0);
        x.set(DELAY, 6);
        Due.offerOnes(x, 1, 1, 2);
        x.tick(2);
        for (int there = 3; there <= 12; there++) {
            x.twice(1, 1);
        }
        x.set(DELAY, 1);
        Due.offer(x, 0, 9);
        x.tick(1);
        Due.is("twelve", x.wire(1, -1, 0), 12);
        Due.is("the eldest", x.wire(1, 0, BYTES + 2), 0);
        Due.is("the packet comes", x.tick(1), 1);
        Due.is("twelve still", x.wire(1, -1, 0), 12);
        Due.is("the eldest is lost", x.wire(1, 0, BYTES + 2), 1);
        Due.frameIs("the ACK", x, 1, 11, Due.wordFrame(ACK_BYTE, 0));
        Due.is("it comes ahead of them", x.tick(1), 1);
        Due.is("acknowledged", x.end(0, UNACKED), 0);
    }

    /** Promise 12: "place -1: how many there are (what is not looked at)". */
    private static void wireTakesPlacesFromMinus1() {
        Counted x = threeOnWire0();
        for (int wire : NO_SIDES) {
            Due.is("wire " + wire, x.wire(wire, -1, 0), BAD);
            Due.is("wire " + wire, x.wire(wire, 0, 0), BAD);
        }
        for (int place : new int[] {LOWEST, -2, 3, 11, 12, HIGHEST}) {
            Due.is("place " + place, x.wire(0, place, 0), BAD);
        }
        Due.is("place 0 of none", x.wire(1, 0, 0), BAD);
        Due.is("the first", x.wire(0, 0, LENGTH), 9);
        Due.is("the last", x.wire(0, 2, LENGTH), 32);
        for (int what : new int[] {LOWEST, -1, 0, 1, 2, 3, 35, 36, HIGHEST}) {
            Due.is("how many", x.wire(0, -1, what), 3);
            Due.is("none", x.wire(1, -1, what), 0);
        }
    }

    /** Promise 12: "0 .., 1 .., 2 .., 3 + i byte i (i from 0 to 32; NONE)". */
    private static void wireTakesWhat0To35() {
        Counted x = threeOnWire0();
        for (int place = 0; place < 3; place++) {
            for (int what : new int[] {LOWEST, -1, 36, 37, HIGHEST}) {
                Due.is("what " + what, x.wire(0, place, what), BAD);
            }
            Due.is("bytes", x.wire(0, place, 0), new int[] {9, 10, 32}[place]);
            Due.is("in how many", x.wire(0, place, 1), 4 + place);
            Due.is("read", x.wire(0, place, 2), DATA);
            Due.is("byte 0", x.wire(0, place, 3), 251);
            Due.is("byte 32", x.wire(0, place, 35), NONE);
        }
        x.tick(3);
        Due.is("the next one: 1", x.wire(0, 0, 1), 1);
        x.tick(1);
        Due.is("it came", x.wire(0, -1, 0), 2);
        Due.is("the next one: 1", x.wire(0, 0, 1), 1);
    }

    private static void wireTellsNoneBehindTheFrame() {
        Counted x = threeOnWire0();
        int[] length = {9, 10, 32};
        for (int place = 0; place < 3; place++) {
            Due.is("the last", x.wire(0, place, BYTES + length[place] - 1), 253);
            for (int i = length[place]; i <= 32; i++) {
                Due.is("byte " + i + " of " + length[place], x.wire(0, place, BYTES + i), NONE);
            }
        }
        // A frame of nine bytes in the place where one of 32 was: of that no byte is left.
        x.lose(0, 0);
        x.lose(0, 0);
        x.lose(0, 0);
        Due.offer(x, 0, 4);
        x.tick(1);
        Due.frameIs("a short one", x, 0, 0, Due.dataFrame(3, 4));
    }

    /** Promise 13: "0 WAITING .. 13 bytes of its DRAFT". */
    private static void endTakesWhat0To13() {
        Counted x = new Counted();
        for (int end : NO_SIDES) {
            Due.is("end " + end, x.end(end, 0), BAD);
            Due.is("end " + end, x.end(end, 13), BAD);
        }
        for (int end = 0; end < 2; end++) {
            for (int what : new int[] {LOWEST, -1, 14, 15, HIGHEST}) {
                Due.is("what " + what, x.end(end, what), BAD);
            }
            x.draft(end, 3, 0);
            x.offer(end);
            x.draft(end, 5, 0);
            Due.is("the first", x.end(end, 0), 1);
            Due.is("the last", x.end(end, 13), 5);
        }
    }

    /** Promise 14: "the i-th PACKET (from 0; ..); NONE. BAD." */
    private static void upTakesFrom0() {
        Counted x = new Counted();
        for (int end : NO_SIDES) {
            Due.is("end " + end, x.up(end, 0), BAD);
        }
        Due.is("none was handed up", x.up(1, 0), NONE);
        Due.offer(x, 0, 1, 2);
        Due.offer(x, 0, 3);
        x.tick(1);
        Due.is("not yet", x.up(1, 0), NONE);
        x.tick(1);
        Due.is("the first", x.up(1, 0), 2);
        Due.is("not the second", x.up(1, 1), NONE);
        x.settle(9);
        Due.is("the second", x.up(1, 1), 1);
        for (int i : new int[] {LOWEST, -2, -1}) {
            Due.is("up " + i, x.up(1, i), BAD);
        }
        for (int i : new int[] {2, 59, 60, 61, HIGHEST}) {
            Due.is("up " + i, x.up(1, i), NONE);
        }
        Due.is("the other end", x.up(0, 0), NONE);
    }

    /** Promise 14: "the first 60 are kept, all are counted". */
    private static void upKeepsTheFirst60() {
        Counted x = sixty(1, 59);
        x.set(R, 60);
        x.tick(1);
        x.twice(0, 0);
        x.twice(0, 0);
        Due.forge(x, 0, 1, Due.dataFrame(60, 61));
        Due.forge(x, 0, 2, Due.dataFrame(61, 62));
        Due.is("59 came", x.end(1, HANDED_UP), 59);
        Due.is("the 60th", x.up(1, 59), NONE);
        Due.is("three come", x.tick(1), 3);
        Due.is("62 are counted", x.end(1, HANDED_UP), 62);
        Due.is("62 are counted", x.count(CAME_UP), 62);
        Due.upIs("the first", x, 1, 0, 1);
        Due.upIs("the 59th", x, 1, 58, 59);
        Due.upIs("the 60th", x, 1, 59, 60);
        for (int i = 60; i <= 62; i++) {
            Due.is("packet " + i + " from 0", x.up(1, i), NONE);
            Due.is("packet " + i + " from 0", x.upByte(1, i, 0), NONE);
        }
    }

    /** Promise 15: "Byte k of that; NONE. BAD." */
    private static void upByteTakesFrom0() {
        Counted x = new Counted();
        x.draft(0, 8, 0x0807060504030201L);
        x.draft(0, 8, 0x100F0E0D0C0B0A09L);
        x.draft(0, 8, 0x1817161514131211L);
        x.offer(0);
        Due.offer(x, 0, 77);
        x.settle(9);
        for (int end : NO_SIDES) {
            Due.is("end " + end, x.upByte(end, 0, 0), BAD);
        }
        for (int i : new int[] {LOWEST, -1}) {
            Due.is("packet " + i, x.upByte(1, i, 0), BAD);
            Due.is("byte " + i, x.upByte(1, 0, i), BAD);
            Due.is("byte " + i + " of none", x.upByte(1, 2, i), BAD);
            Due.is("byte of packet " + i, x.upByte(1, i, 24), BAD);
        }
        for (int k = 0; k < 24; k++) {
            Due.is("byte " + k, x.upByte(1, 0, k), k + 1);
        }
        for (int k : new int[] {24, 25, HIGHEST}) {
            Due.is("byte " + k, x.upByte(1, 0, k), NONE);
        }
        Due.is("the only byte", x.upByte(1, 1, 0), 77);
        for (int k : new int[] {1, 23, 24, HIGHEST}) {
            Due.is("byte " + k + " of one", x.upByte(1, 1, k), NONE);
        }
        for (int i : new int[] {2, 59, 60, HIGHEST}) {
            Due.is("of packet " + i, x.upByte(1, i, 0), NONE);
        }
        Due.is("the other end", x.upByte(0, 0, 0), NONE);
    }

    /** Promise 16: "0 TICKS .. 17 whether it is QUIET (1, 0)". */
    private static void countTakesWhat0To17() {
        Counted x = new Counted();
        for (int what : new int[] {LOWEST, -1, 18, 19, HIGHEST}) {
            Due.is("count " + what, x.count(what), BAD);
        }
        x.tick(3);
        Due.is("the first", x.count(0), 3);
        Due.is("the last", x.count(17), 1);
        Due.is("the last but one", x.count(16), 0);
    }

    /** Promise 17: "place k (0, 1): 1 if something was there, else 0". */
    private static void keepTakes0And1() {
        Counted x = new Counted();
        for (int k : new int[] {LOWEST, -1, 2, HIGHEST}) {
            Due.is("keep " + k, x.keep(k), BAD);
        }
        Due.is("keep 0", x.keep(0), 0);
        Due.is("keep 0 again", x.keep(0), 1);
        Due.is("keep 1", x.keep(1), 0);
        Due.is("keep 1 again", x.keep(1), 1);
        x.again(0);
        Due.is("what is kept is not put back", x.keep(1), 1);
    }

    /** Promise 18: "NO: nothing is there", "(which keeps it)". */
    private static void againNeedsWhatWasKept() {
        for (int k = 0; k < 2; k++) {
            Counted x = new Counted();
            for (int none : new int[] {LOWEST, -1, 2, HIGHEST}) {
                Due.is("again " + none, x.again(none), BAD);
            }
            Due.is("nothing", x.again(k), NO);
            Due.is("kept", x.keep(k), 0);
            Due.is("a new one", x.again(k), 0);
            Due.is("the other place", x.again(1 - k), NO);
            x.tick(5);
            Due.is("a new one still", x.again(k), 0);
            Due.is("no tick", x.count(TICKS), 0);
        }
    }

    /** Terms: "kept in one of two places, all of it (but what is kept)". */
    private static void placesKeepWhatTheyHave() {
        Counted x = new Counted();
        x.keep(0);
        x.tick(1);
        x.keep(1);
        Due.is("place 0", x.again(0), 0);
        // Place 1 was kept behind that; it is there still.
        Due.is("place 1", x.again(1), 1);
        x.tick(1);
        Due.is("over place 1", x.keep(1), 1);
        Due.is("place 0", x.again(0), 0);
        Due.is("place 1", x.again(1), 2);
        x.tick(198);
        for (int i = 0; i < 99; i++) {
            x.tick(200);
        }
        Due.is("to 20001", x.tick(1), FULL);
        Due.is("place 1", x.again(1), 2);
        Due.is("there is room", x.tick(200), 0);
        Due.is("202", x.count(TICKS), 202);
    }
}
