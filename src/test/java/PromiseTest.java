/** Each promise by itself: the ordinary, the edges that the document names, and wrong inputs. */
public final class PromiseTest implements Names {
    private PromiseTest() {
    }

    public static void main(String[] args) {
        promise1NewObject();
        promise2Draft();
        promise3Offer();
        promise3OffersInAll();
        promise4Check();
        promise5Set();
        promise5SetRules();
        promise6Tick();
        promise6TicksInAll();
        promise6Window();
        promise6Timer();
        promise6TimerRests();
        promise6Training();
        promise6TrainingByNak();
        promise6TrainingLeavesTimers();
        promise6LayingOrder();
        promise6Words();
        promise6NakAcknowledgesToo();
        promise6AckWhileSendingAgain();
        promise6NaksOnce();
        promise6DataDistances();
        promise6EldestFirst();
        promise7Settle();
        promise7SettleQuiet();
        promise7FrameAloneIsNotQuiet();
        promise8Voids();
        promise9Bend();
        promise10Lose();
        promise11Twice();
        promise11LayingOnFullWire();
        promise12Wire();
        promise12ReadAs();
        promise13End();
        promise14And15Up();
        promise14And15UpPast60();
        promise16Count();
        promise17And18KeepAgain();
        promise18AgainBringsAllBack();
        promise18GoesOnAlike();
        promise18PacketsOfTheirOwn();
        promise18AmidTraining();
        promise18FullWires();
        Due.finish();
    }

    private static void promise1NewObject() {
        Counted x = new Counted();
        Due.ends("1", x, 0, 0, 0, 0, 63, 0, 0, 0, 0, 0, NONE, 0, 0, 0, 0);
        Due.ends("1", x, 1, 0, 0, 0, 63, 0, 0, 0, 0, 0, NONE, 0, 0, 0, 0);
        Due.counts("1", x, 0, 0, 0, 0, 0, 0, 0, 0, 0, 0, 0, 0, 0, 0, 0, 0, 0, 1);
        for (int side = 0; side < 2; side++) {
            Due.is("1 wire", x.wire(side, -1, 0), 0);
            Due.is("1 up", x.up(side, 0), NONE);
            Due.is("1 again", x.again(side), NO);
            Due.is("1 voids", x.voids(side), 0);
        }
        Due.is("1 DELAY", x.set(0, 2), 1);
        Due.is("1 R", x.set(1, 2), 12);
        Due.is("1 A", x.set(2, 3), 2);
        Due.is("1 tick", x.tick(30), 0);
    }

    private static void promise2Draft() {
        Counted x = new Counted();
        for (int end : new int[] {-1, 2, LOWEST, HIGHEST}) {
            Due.is("2 end", x.draft(end, 1, 5), BAD);
        }
        for (int n : new int[] {-1, 0, 9, LOWEST, HIGHEST}) {
            Due.is("2 n", x.draft(0, n, 5), BAD);
        }
        Due.is("2 refused", x.end(0, DRAFT), 0);
        Due.is("2 eight", x.draft(0, 8, 0x8877665544332211L), 8);
        Due.is("2 one of many", x.draft(0, 1, 0x1234567890L), 9);
        Due.is("2 below 0", x.draft(0, 2, -2L), 11);
        Due.is("2 the other end", x.draft(1, 3, 0x030201L), 3);
        Due.is("2 to 19", x.draft(0, 8, 0L), 19);
        Due.is("2 past 24", x.draft(0, 6, 0L), FULL);
        Due.is("2 unchanged", x.end(0, DRAFT), 19);
        Due.is("2 to 24", x.draft(0, 5, Long.MIN_VALUE), 24);
        Due.is("2 full", x.draft(0, 1, 0L), FULL);
        Due.is("2 BAD ahead of FULL", x.draft(0, 9, 0L), BAD);
        Due.is("2 offer", x.offer(0), 1);
        Due.is("2 anew", x.draft(0, 1, 7L), 1);
        x.offer(1);
        x.settle(50);
        Due.upIs("2 up", x, 1, 0, 0x11, 0x22, 0x33, 0x44, 0x55, 0x66, 0x77, 0x88, 0x90, 254, 255,
                0, 0, 0, 0, 0, 0, 0, 0, 0, 0, 0, 0, 0);
        Due.upIs("2 up", x, 0, 0, 1, 2, 3);
    }

    private static void promise3Offer() {
        Counted x = new Counted();
        for (int end : new int[] {-1, 2, LOWEST, HIGHEST}) {
            Due.is("3 end", x.offer(end), BAD);
        }
        Due.is("3 empty", x.offer(0), NO);
        for (int i = 1; i <= 16; i++) {
            Due.is("3 waits", Due.offer(x, 0, i), i);
            Due.is("3 draft is empty", x.end(0, DRAFT), 0);
        }
        Due.is("3 empty ahead of FULL", x.offer(0), NO);
        x.draft(0, 2, 0x0909L);
        Due.is("3 full", x.offer(0), FULL);
        Due.is("3 draft stays", x.end(0, DRAFT), 2);
        Due.is("3 offered", x.end(0, OFFERED), 16);
        Due.is("3 the other end", Due.offer(x, 1, 3), 1);
        x.tick(1);
        Due.is("3 one went", x.offer(0), 16);
        Due.is("3 offered", x.end(0, OFFERED), 17);
        x.settle(400);
        Due.upIs("3 the last", x, 1, 16, 9, 9);
    }

    private static void promise3OffersInAll() {
        Counted x = new Counted();
        for (int i = 0; i < 60; i++) {
            Due.is("3 in all", Due.offer(x, 1, i, 255 - i), i % 15 + 1);
            if (i % 15 == 14) {
                x.settle(400);
            }
        }
        Due.is("3 none waits", x.end(1, WAITING), 0);
        Due.is("3 empty ahead of 60", x.offer(1), NO);
        Due.is("3 the 61st", Due.offer(x, 1, 1), FULL);
        Due.is("3 draft stays", x.end(1, DRAFT), 1);
        Due.is("3 offered", x.end(1, OFFERED), 60);
        Due.is("3 the other end", Due.offer(x, 0, 1), 1);
        Due.ends("3 in all", x, 1, 0, 0, 60, 59, 0, 0, 0, 0, 0, NONE, 0, 60, 0, 1);
        for (int i = 0; i < 60; i++) {
            Due.upIs("3 in all", x, 0, i, i, 255 - i);
        }
        Due.is("3 in all", x.up(0, 60), NONE);
    }

    private static void promise4Check() {
        Counted x = new Counted();
        for (int end : new int[] {-1, 2, LOWEST, HIGHEST}) {
            Due.is("4 end", x.check(end, 0), BAD);
        }
        for (int what : new int[] {-1, 2, LOWEST, HIGHEST}) {
            Due.is("4 what", x.check(0, what), BAD);
        }
        Due.is("4 empty", x.check(0, 0), 0);
        Due.is("4 empty", x.check(0, 1), 0);
        // The bytes "123456789", whose CRC 32 is in every table of such checks.
        x.draft(0, 8, 0x3837363534333231L);
        x.draft(0, 1, 0x39);
        Due.is("4 CRC 32", x.check(0, 0), 0xCBF43926L);
        Due.is("4 short", x.check(0, 1),
                Due.shortCheck(0x31, 0x32, 0x33, 0x34, 0x35, 0x36, 0x37, 0x38, 0x39));
        x.draft(1, 1, 255);
        Due.is("4 one byte", x.check(1, 0), 0xFF000000L);
        // All ones less 255 in the lowest eight bits: nothing is left to divide.
        Due.is("4 one byte, short", x.check(1, 1), 0xFF00L);
        Due.is("4 draft stays", x.end(0, DRAFT), 9);
    }

    private static void promise5Set() {
        Counted x = new Counted();
        int[] low = {1, 1, 0};
        int[] high = {6, 60, 9};
        int[] was = {1, 12, 2};
        for (int what = 0; what < 3; what++) {
            for (int v : new int[] {low[what] - 1, high[what] + 1, LOWEST, HIGHEST}) {
                Due.is("5 v", x.set(what, v), BAD);
            }
            Due.is("5 was", x.set(what, low[what]), was[what]);
            Due.is("5 low", x.set(what, high[what]), low[what]);
            Due.is("5 high", x.set(what, 5), high[what]);
        }
        for (int what : new int[] {-1, 3, LOWEST, HIGHEST}) {
            Due.is("5 what", x.set(what, 1), BAD);
        }
    }

    private static void promise5SetRules() {
        Counted x = new Counted();
        x.set(0, 6);
        Due.offer(x, 0, 1);
        x.tick(1);
        Due.is("5 DELAY", x.wire(0, 0, 1), 6);
        x.set(0, 2);
        Due.is("5 DELAY as it was then", x.wire(0, 0, 1), 6);
        x.set(2, 9);
        Due.is("5 not yet", x.tick(5), 0);
        Due.is("5 comes", x.tick(1), 1);
        // Due in 9 ticks, and the timers of this one are over.
        Due.is("5 A", x.end(1, ACK_DUE), 8);
        x.set(2, 0);
        Due.is("5 A as it was then", x.end(1, ACK_DUE), 8);
        x.set(1, 60);
        x.tick(7);
        Due.is("5 ACK is laid at 0", x.wire(1, -1, 0), 0);
        x.tick(1);
        Due.is("5 ACK is laid at 0", x.wire(1, -1, 0), 1);
        Due.is("5 ACK", x.wire(1, 0, 1), 2);
        Due.is("5 timer", x.end(0, TIMER), 14);
        // R below the timer: it is above R then, and sends again.
        x.set(1, 3);
        x.tick(1);
        Due.is("5 R", x.count(SENDINGS_AGAIN), 1);
    }

    private static void promise6Tick() {
        Counted x = new Counted();
        for (int n : new int[] {-1, 0, 201, LOWEST, HIGHEST}) {
            Due.is("6 n", x.tick(n), BAD);
        }
        Due.is("6 refused", x.count(TICKS), 0);
        Due.offer(x, 0, 10, 20);
        Due.offer(x, 1, 30);
        Due.is("6 first", x.tick(1), 0);
        Due.frameIs("6 wire 0", x, 0, 0, Due.dataFrame(0, 10, 20));
        Due.frameIs("6 wire 1", x, 1, 0, Due.dataFrame(0, 30));
        Due.is("6 both come", x.tick(1), 2);
        Due.ends("6 2", x, 0, 0, 1, 1, 63, 1, 0, 0, 1, 0, 1, 0, 1, 1, 0);
        Due.ends("6 2", x, 1, 0, 1, 1, 63, 1, 0, 0, 1, 0, 1, 0, 1, 1, 0);
        Due.is("6 words are laid", x.tick(1), 0);
        Due.frameIs("6 ACK", x, 0, 0, Due.wordFrame(0, 0));
        Due.frameIs("6 ACK", x, 1, 0, Due.wordFrame(0, 0));
        Due.is("6 not due any more", x.end(0, ACK_DUE), NONE);
        Due.is("6 timer", x.end(0, TIMER), 2);
        Due.is("6 words come", x.tick(1), 2);
        Due.ends("6 4", x, 0, 0, 0, 1, 0, 0, 0, 0, 1, 0, NONE, 0, 1, 1, 0);
        Due.is("6 many", x.tick(200), 0);
        Due.counts("6", x, 204, 0, 0, 0, 2, 0, 0, 2, 0, 2, 0, 0, 0, 2, 0, 0, 0, 1);
        Due.offerOnes(x, 0, 1, 3);
        // Three packets, an ACK of the first two, an ACK of the third.
        Due.is("6 all that came in many", x.tick(200), 5);
    }

    private static void promise6TicksInAll() {
        Counted x = new Counted();
        for (int i = 0; i < 99; i++) {
            x.tick(200);
        }
        Due.is("6 19990", x.tick(190), 0);
        Due.is("6 past 20000", x.tick(11), FULL);
        Due.is("6 BAD ahead of FULL", x.tick(201), BAD);
        Due.is("6 settle past 20000", x.settle(11), FULL);
        Due.is("6 settle BAD ahead of FULL", x.settle(401), BAD);
        Due.is("6 settle to 20000", x.settle(10), 0);
        Due.is("6 kept", x.keep(0), 0);
        Due.is("6 to 20000", x.tick(10), 0);
        Due.is("6 full", x.tick(1), FULL);
        Due.is("6 full", x.settle(1), FULL);
        Due.is("6 ticks", x.count(TICKS), 20000);
        Due.is("6 back", x.again(0), 19990);
        Due.is("6 from there", x.tick(3), 0);
        Due.is("6 from there", x.count(TICKS), 19993);
    }

    private static void promise6Window() {
        Counted x = new Counted();
        x.set(0, 6);
        x.set(1, 60);
        x.set(2, 9);
        Due.offerOnes(x, 0, 1, 10);
        x.tick(7);
        Due.ends("6 seven", x, 0, 3, 7, 7, 63);
        Due.is("6 eldest came", x.wire(0, -1, 0), 6);
        x.tick(1);
        Due.ends("6 eight", x, 0, 2, 8, 8, 63);
        x.tick(1);
        Due.ends("6 no ninth", x, 0, 2, 8, 8, 63);
        // Laid in tick 1, came in 7, its ACK due in 9 (8 after that tick): laid in 15, here in 21.
        x.tick(11);
        Due.ends("6 tick 20", x, 0, 2, 8, 8, 63, 19);
        x.tick(1);
        // All eight had come by 14, so that ACK tells 7; the ninth goes in the same tick.
        Due.ends("6 tick 21", x, 0, 1, 1, 9, 7, 0);
    }

    private static void promise6Timer() {
        Counted x = new Counted();
        x.set(1, 4);
        Due.offer(x, 0, 1);
        Due.offer(x, 0, 2);
        Due.offer(x, 0, 3);
        x.tick(1);
        x.lose(0, 0);
        x.tick(1);
        x.lose(0, 0);
        x.tick(1);
        x.lose(0, 0);
        x.tick(1);
        Due.ends("6 timer", x, 0, 0, 3, 3, 63, 3, 0, 0);
        x.tick(1);
        Due.ends("6 sends again", x, 0, 0, 3, 3, 63, 0, 1, 2);
        Due.frameIs("6 eldest first", x, 0, 0, Due.dataFrame(0, 1));
        x.lose(0, 0);
        x.tick(1);
        Due.frameIs("6 then the next", x, 0, 0, Due.dataFrame(1, 2));
        Due.ends("6 timer stands", x, 0, 0, 3, 3, 63, 0, 1, 1);
        x.lose(0, 0);
        x.tick(1);
        Due.frameIs("6 then the last", x, 0, 0, Due.dataFrame(2, 3));
        Due.ends("6 timer stands", x, 0, 0, 3, 3, 63, 0, 1, 0);
        x.tick(1);
        Due.ends("6 timer goes", x, 0, 0, 3, 3, 63, 1, 1, 0);
        Due.counts("6 again", x, 8, 0, 0, 1, 3, 3, 0, 0, 1);
        x.settle(100);
        for (int i = 0; i < 3; i++) {
            Due.upIs("6 in order", x, 1, i, i + 1);
        }
        Due.is("6 once", x.up(1, 3), NONE);
    }

    private static void promise6TimerRests() {
        Counted x = new Counted();
        x.tick(50);
        Due.is("6 nothing unacked", x.end(0, TIMER), 0);
        Due.is("6 nothing unacked", x.count(SENDINGS_AGAIN), 0);
        Due.offer(x, 0, 1);
        x.tick(1);
        Due.is("6 laid behind the timers", x.end(0, TIMER), 0);
        x.lose(0, 0);
        x.tick(11);
        Due.is("6 below R", x.end(0, TIMER), 11);
        Due.is("6 below R", x.count(SENDINGS_AGAIN), 0);
        x.tick(1);
        Due.is("6 at R", x.end(0, TIMER), 0);
        Due.is("6 at R", x.count(SENDINGS_AGAIN), 1);
        Due.is("6 laid in that tick", x.wire(0, -1, 0), 1);
    }

    private static void promise6Training() {
        Counted x = new Counted();
        x.set(1, 1);
        x.set(0, 6);
        x.set(2, 9);
        Due.offer(x, 0, 1);
        Due.offer(x, 1, 2);
        // With R 1, from tick 2 on: the timer is over, and the packet is laid again.
        x.tick(4);
        Due.ends("6 tick 4", x, 0, 0, 1, 1, 63, 0, 3, 0);
        Due.ends("6 tick 4", x, 1, 0, 1, 1, 63, 0, 3, 0);
        Due.is("6 wires", x.wire(0, -1, 0), 4);
        x.tick(1);
        // END 0's fourth try trains, and END 1's, in the same tick, anew.
        Due.ends("6 tick 5", x, 0, 0, 1, 1, 63, 0, 0, 1);
        Due.ends("6 tick 5", x, 1, 0, 1, 1, 63, 0, 0, 1);
        Due.counts("6 tick 5", x, 5, 5, 2, 8, 2, 6);
        Due.is("6 all is gone", x.wire(0, -1, 0) + x.wire(1, -1, 0), 0);
        x.set(1, 60);
        for (int left = 4; left >= 0; left--) {
            Due.is("6 no quiet", x.count(QUIET), 0);
            Due.is("6 training", x.tick(1), 0);
            Due.is("6 training left", x.count(TRAINING), left);
            Due.is("6 nothing is laid", x.wire(0, -1, 0) + x.wire(1, -1, 0), 0);
        }
        x.tick(1);
        Due.frameIs("6 behind the training", x, 0, 0, Due.dataFrame(0, 1));
        Due.frameIs("6 behind the training", x, 1, 0, Due.dataFrame(0, 2));
        Due.is("6 again is over", x.end(0, AGAIN), 0);
        Due.counts("6 tick 11", x, 11, 0, 2, 8, 2, 8);
    }

    /** The third R of 2 is over in tick 7; then a NAK on WIRE 1 is the fourth try of END 0. */
    private static void promise6TrainingByNak() {
        Counted x = new Counted();
        x.set(1, 2);
        x.set(2, 9);
        Due.offerOnes(x, 0, 1, 1);
        Due.offerOnes(x, 1, 7, 7);
        x.tick(1);
        x.lose(0, 0);
        x.tick(1);
        // END 1's packet came to END 0 in tick 2: an ACK is due in 9, 8 behind that tick.
        Due.ends("6 tick 2", x, 0, 0, 1, 1, 63, 1, 0, 0, 1, 0, 8, 0);
        x.tick(1);
        Due.is("6 tick 3", x.end(0, TRIES), 1);
        x.lose(0, 0);
        x.tick(2);
        Due.is("6 tick 5", x.end(0, TRIES), 2);
        x.lose(0, 0);
        x.tick(2);
        Due.is("6 tick 7", x.end(0, TRIES), 3);
        Due.is("6 tick 7", x.end(1, TRIES), 3);
        x.set(1, 60);
        // Both wires hold the packet laid again: END 1's becomes a BAD frame, so END 0 says NAK.
        Due.is("6 on wire 1", x.wire(1, 0, READ), DATA);
        x.bend(1, 0, 3, 255);
        x.bend(0, 0, 3, 255);
        x.tick(1);
        Due.is("6 NAK of END 0", x.wire(0, 0, READ), NAK);
        Due.is("6 NAK of END 1", x.wire(1, 0, READ), NAK);
        x.twice(0, 0);
        x.twice(1, 0);
        // END 1 had its packet: the NAK acknowledges it. END 0's has not come: tries is 4.
        Due.is("6 the second NAK of WIRE 1 is gone", x.tick(1), 3);
        Due.counts("6 tick 9", x, 9, 5, 1, 7);
        Due.ends("6 tick 9", x, 0, 0, 1, 1, 63, 0, 0, 1);
        Due.ends("6 tick 9", x, 1, 0, 0, 1, 0, 0, 0, 0);
        Due.is("6 gone", x.wire(1, -1, 0), 0);
        // Laid in tick 15, it comes in 16; the ACK is due in 9 (8 behind that tick), comes in 25.
        Due.is("6 settles", x.settle(100), 16);
        Due.upIs("6 up", x, 1, 0, 1);
    }

    /** Training that begins as frames come leaves that tick its timers, and no other. */
    private static void promise6TrainingLeavesTimers() {
        Counted x = new Counted();
        x.set(2, 5);
        Due.offer(x, 0, 1);
        Due.offer(x, 1, 2);
        x.set(1, 1);
        x.tick(1);
        x.lose(0, 0);
        // Tick 2: END 1's packet comes to END 0, its ACK is due in 5, and R 1 is over for both.
        x.tick(1);
        Due.is("6 ACK due", x.end(0, ACK_DUE), 4);
        x.lose(0, 0);
        x.tick(1);
        x.lose(0, 0);
        x.tick(1);
        Due.is("6 ACK due", x.end(0, ACK_DUE), 2);
        Due.is("6 tries", x.end(0, TRIES), 3);
        x.lose(0, 0);
        x.tick(1);
        // Tick 5: training; the ACK that is due had its tick less all the same.
        Due.is("6 training", x.count(TRAINING), 5);
        Due.is("6 ACK due", x.end(0, ACK_DUE), 1);
        x.tick(5);
        Due.is("6 ACK due stands", x.end(0, ACK_DUE), 1);
        Due.is("6 timers stand", x.end(0, TIMER), 0);
        x.tick(1);
        Due.is("6 ACK goes first", x.wire(0, 0, READ), ACK);
        Due.is("6 again waits", x.end(0, AGAIN), 1);
    }

    private static void promise6LayingOrder() {
        Counted x = new Counted();
        x.set(2, 0);
        x.set(1, 60);
        Due.offerOnes(x, 0, 1, 2);
        Due.offerOnes(x, 1, 11, 13);
        x.tick(1);
        x.bend(0, 0, 3, 1);
        x.twice(1, 0);
        x.bend(1, 1, 3, 1);
        // END 0 takes a packet in (an ACK is due at once) and a BAD frame (a NAK is due).
        Due.is("6 three come", x.tick(1), 3);
        Due.frameIs("6 the NAK first", x, 0, 0, Due.wordFrame(16, 0));
        Due.ends("6 ACK is not due any more", x, 0, 1, 1, 1, 63, 1, 0, 0, 1, 1, NONE, 0);
        Due.frameIs("6 NAK ahead of new", x, 1, 0, Due.wordFrame(16, 63));
        x.tick(1);
        // END 1's NAK: END 0 sends again ahead of its new packet. END 0's NAK told 0.
        Due.frameIs("6 again first", x, 0, 0, Due.dataFrame(0, 1));
        Due.frameIs("6 new", x, 1, 0, Due.dataFrame(1, 12));
        x.tick(1);
        Due.frameIs("6 ACK ahead of new", x, 0, 0, Due.wordFrame(0, 1));
        Due.frameIs("6 ACK ahead of new", x, 1, 0, Due.wordFrame(0, 0));
        Due.is("6 one waits", x.end(0, WAITING), 1);
        x.tick(1);
        Due.frameIs("6 new at last", x, 0, 0, Due.dataFrame(1, 2));
        Due.frameIs("6 new at last", x, 1, 0, Due.dataFrame(2, 13));
        x.settle(50);
        Due.upIs("6 up", x, 1, 1, 2);
        Due.upIs("6 up", x, 0, 2, 13);
    }

    /** Words that an END 0 with NEXT 3, ACKED 63 and three unacked is told. */
    private static void promise6Words() {
        for (int number = 0; number < 64; number++) {
            for (int kind = 0; kind <= 16; kind += 16) {
                Counted x = new Counted();
                x.set(1, 60);
                Due.offerOnes(x, 0, 1, 3);
                x.set(2, 3);
                x.tick(4);
                // END 1 took the first in tick 2, and all three by tick 4, when it lays an ACK.
                Due.is("6 word", x.wire(1, 0, READ), ACK);
                Due.is("6 timer", x.end(0, TIMER), 3);
                Due.forge(x, 1, 0, Due.wordFrame(kind, number));
                x.tick(1);
                // 2 - n by 64 is below 32 for 0, 1, 2 and for 35 to 63.
                boolean wrong = number > 2 && number < 35;
                int freed = number < 3 ? number + 1 : 0;
                boolean again = kind == 16 && !wrong && freed < 3;
                String at = "6 word " + kind + " " + number;
                Due.is(at, x.count(CAME_WORD), 1);
                Due.is(at, x.count(CAME_WRONG), wrong ? 1 : 0);
                Due.is(at, x.end(0, UNACKED), 3 - freed);
                Due.is(at, x.end(0, ACKED), freed == 0 ? 63 : freed - 1);
                Due.is(at, x.end(0, TRIES), again ? 1 : 0);
                Due.is(at, x.count(SENDINGS_AGAIN), again ? 1 : 0);
                // The first that is sent again is laid in the same tick.
                Due.is(at, x.end(0, AGAIN), again ? 3 - freed - 1 : 0);
            }
        }
    }

    private static void promise6NakAcknowledgesToo() {
        Counted x = new Counted();
        x.set(1, 60);
        Due.offerOnes(x, 0, 1, 3);
        x.tick(2);
        // The second is on the wire, the first was handed up.
        x.bend(0, 0, 7, 16);
        x.tick(1);
        Due.frameIs("6 NAK tells what came", x, 1, 0, Due.wordFrame(16, 0));
        Due.is("6 one ACK was due", x.end(1, ACK_DUE), NONE);
        x.tick(1);
        // The third, ahead of its turn, came in this tick too; END 1 is NAKKED already.
        Due.ends("6 NAK", x, 0, 0, 2, 3, 0, 0, 1, 1);
        Due.ends("6 NAK", x, 1, 0, 0, 0, 63, 0, 0, 0, 1, 1, NONE, 0);
        Due.is("6 dropped", x.count(CAME_ELSE), 1);
        Due.frameIs("6 the eldest unacked", x, 0, 0, Due.dataFrame(1, 2));
        x.tick(1);
        Due.ends("6 not NAKKED", x, 1, 0, 0, 0, 63, 0, 0, 0, 2, 0, 1, 0);
        x.settle(50);
        Due.is("6 all came", x.end(1, HANDED_UP), 3);
        Due.counts("6 all came", x, 7, 0, 0, 1, 3, 2, 0, 1, 1, 3, 0, 1, 0, 2, 0, 1, 0, 1);
    }

    private static void promise6AckWhileSendingAgain() {
        Counted x = new Counted();
        x.set(1, 3);
        x.set(2, 1);
        x.set(0, 2);
        Due.offerOnes(x, 0, 1, 4);
        // Laid in 1 to 3. Tick 3: the first comes and is acknowledged in that tick, to come in 5.
        x.tick(3);
        Due.is("6 ACK", x.wire(1, 0, READ), ACK);
        Due.ends("6 tick 3", x, 0, 1, 3, 3, 63, 2, 0, 0);
        x.tick(1);
        // The timer is over: all three are to be sent again, one is at once.
        Due.ends("6 tick 4", x, 0, 1, 3, 3, 63, 0, 1, 2);
        Due.is("6 ACK", x.wire(1, 1, READ), ACK);
        Due.forge(x, 1, 0, Due.wordFrame(0, 1));
        x.tick(1);
        // Of the two to be sent again the elder is acknowledged; the other goes in this tick.
        Due.ends("6 tick 5", x, 0, 1, 1, 3, 1, 0, 0, 0);
        Due.is("6 the last", x.wire(0, x.wire(0, -1, 0) - 1, 3 + 2), 2);
        x.settle(60);
        Due.is("6 all came", x.end(1, HANDED_UP), 4);
        Due.is("6 all is acknowledged", x.end(0, ACKED), 3);
    }

    private static void promise6NaksOnce() {
        Counted x = new Counted();
        x.set(1, 60);
        Due.offer(x, 0, 1);
        x.tick(1);
        x.bend(0, 0, 3, 1);
        x.twice(0, 0);
        x.twice(0, 0);
        x.set(0, 2);
        Due.is("6 three BAD ones", x.tick(1), 3);
        Due.is("6 BAD", x.count(CAME_BAD), 3);
        Due.is("6 one NAK", x.count(LAID_NAK), 1);
        Due.ends("6 NAKKED", x, 1, 0, 0, 0, 63, 0, 0, 0, 0, 1, NONE, 0);
        x.lose(1, 0);
        Due.is("6 no more", x.tick(50), 0);
        Due.is("6 no more", x.count(LAID_NAK), 1);
    }

    /** DATA with every number comes to an END 1 that wants 1. */
    private static void promise6DataDistances() {
        for (int number = 0; number < 64; number++) {
            Counted x = new Counted();
            x.set(2, 0);
            Due.offerOnes(x, 0, 1, 2);
            x.tick(2);
            Due.is("6 ACK of 0", x.wire(1, 0, READ), ACK);
            Due.forge(x, 0, 0, Due.dataFrame(number, 77));
            x.set(2, 4);
            x.tick(1);
            // n - 1 by 64: 0 for 1, 1 to 31 for 2 to 32, else 32 or above.
            boolean up = number == 1;
            boolean ahead = number >= 2 && number <= 32;
            String at = "6 DATA " + number;
            Due.is(at, x.count(CAME_UP), up ? 2 : 1);
            Due.is(at, x.count(CAME_REPEAT), up || ahead ? 0 : 1);
            Due.is(at, x.count(CAME_ELSE), ahead ? 1 : 0);
            Due.is(at, x.end(1, HANDED_UP), up ? 2 : 1);
            Due.is(at, x.end(1, WANTED), up ? 2 : 1);
            Due.is(at, x.end(1, NAKKED), ahead ? 1 : 0);
            Due.is(at, x.end(1, ACK_DUE), ahead ? NONE : 3);
            Due.is(at, x.count(LAID_NAK), ahead ? 1 : 0);
        }
    }

    private static void promise6EldestFirst() {
        Counted x = new Counted();
        x.set(1, 60);
        x.set(0, 3);
        Due.offerOnes(x, 0, 1, 3);
        x.tick(1);
        x.set(0, 2);
        x.tick(1);
        x.set(0, 1);
        x.tick(1);
        for (int place = 0; place < 3; place++) {
            Due.is("6 in the same tick", x.wire(0, place, 1), 1);
        }
        Due.is("6 all come", x.tick(1), 3);
        Due.is("6 in order", x.end(1, HANDED_UP), 3);
        Due.offerOnes(x, 0, 4, 5);
        x.set(0, 4);
        x.tick(1);
        x.set(0, 1);
        x.tick(1);
        Due.is("6 the elder", x.wire(0, 0, 1), 3);
        Due.is("6 the younger", x.wire(0, 1, 1), 1);
        x.tick(1);
        Due.is("6 the younger came first", x.end(1, NAKKED), 1);
        Due.is("6 the elder is left", x.wire(0, 0, 5), 3);
    }

    private static void promise7Settle() {
        Counted x = new Counted();
        for (int n : new int[] {-1, 0, 401, LOWEST, HIGHEST}) {
            Due.is("7 n", x.settle(n), BAD);
        }
        Due.is("7 quiet", x.settle(400), 0);
        Due.is("7 no tick", x.count(TICKS), 0);
        Due.offer(x, 0, 1);
        Due.is("7 n at most", x.settle(1), 1);
        Due.is("7 n at most", x.settle(2), 2);
        Due.is("7 not yet", x.count(QUIET), 0);
        Due.is("7 the last", x.settle(400), 1);
        Due.is("7 quiet", x.count(QUIET), 1);
        Due.is("7 ticks", x.count(TICKS), 4);
        for (int i = 0; i < 98; i++) {
            x.tick(200);
        }
        Due.is("7 19604", x.count(TICKS), 19604);
        Due.is("7 FULL, though it is quiet", x.settle(397), FULL);
        Due.is("7 to 20000", x.settle(396), 0);
    }

    private static void promise7SettleQuiet() {
        Counted x = new Counted();
        x.draft(0, 1, 1);
        x.voids(0);
        Due.is("7 a draft is quiet", x.count(QUIET), 1);
        x.offer(0);
        Due.is("7 one waits", x.count(QUIET), 0);
        // The VOID in tick 1, the packet in 2, which comes in 3; its ACK is laid in 4, comes in 5.
        Due.is("7 with a VOID", x.settle(400), 5);
        Due.offer(x, 1, 1);
        x.tick(1);
        x.lose(1, 0);
        Due.is("7 unacked alone", x.count(QUIET), 0);
        // 12 ticks of R, one to come, one till the ACK, one for the ACK.
        Due.is("7 by the timer", x.settle(400), 15);
    }

    /** R 1 is over as the packet comes: it is laid once more, and acknowledged once more. */
    private static void promise7FrameAloneIsNotQuiet() {
        for (int end = 0; end < 2; end++) {
            Counted x = new Counted();
            x.set(1, 1);
            x.set(2, 0);
            Due.offer(x, end, 1);
            x.tick(3);
            Due.ends("7 all else is quiet", x, end, 0, 0, 1, 0, 0, 0, 0, 0, 0, NONE, 0);
            Due.ends("7 all else is quiet", x, 1 - end, 0, 0, 0, 63, 0, 0, 0, 1, 0, NONE, 0);
            Due.is("7 nothing on its wire", x.wire(end, -1, 0), 0);
            Due.is("7 an ACK on the other", x.wire(1 - end, -1, 0), 1);
            Due.is("7 not quiet", x.count(QUIET), 0);
            Due.is("7 one tick", x.settle(9), 1);
        }
    }

    private static void promise8Voids() {
        Counted x = new Counted();
        for (int end : new int[] {-1, 2, LOWEST, HIGHEST}) {
            Due.is("8 end", x.voids(end), BAD);
        }
        Due.is("8 first", x.voids(1), 0);
        Due.is("8 told", x.voids(1), 1);
        x.tick(5);
        Due.is("8 nothing to send", x.count(LAID_VOID), 0);
        Due.is("8 told still", x.voids(1), 1);
        Due.offer(x, 1, 5, 6);
        Due.offer(x, 0, 8);
        x.tick(1);
        Due.frameIs("8 VOID", x, 1, 0, Due.voidFrame(0, 5, 6));
        Due.is("8 VOID", x.wire(1, 0, READ), VOID);
        Due.frameIs("8 the other end", x, 0, 0, Due.dataFrame(0, 8));
        Due.ends("8 it still waits", x, 1, 1, 0, 0, 63);
        Due.is("8 told no more", x.voids(1), 0);
        x.tick(1);
        Due.frameIs("8 VOID anew", x, 1, 0, Due.voidFrame(0, 5, 6));
        Due.ends("8 dropped", x, 0, 0, 1, 1, 63, 1, 0, 0, 0, 0, NONE, 0, 1, 0, 0);
        x.tick(2);
        Due.is("8 VOIDs came", x.count(CAME_VOID), 2);
        Due.is("8 VOIDs laid", x.count(LAID_VOID), 2);
        x.settle(50);
        Due.upIs("8 up", x, 0, 0, 5, 6);
        Due.is("8 one first", x.count(LAID_FIRST), 2);
    }

    private static void promise9Bend() {
        Counted x = new Counted();
        Due.is("9 no frame", x.bend(0, 0, 0, 1), BAD);
        Due.offer(x, 0, 0x55);
        x.tick(1);
        for (int wire : new int[] {-1, 1, 2, LOWEST, HIGHEST}) {
            Due.is("9 wire", x.bend(wire, 0, 0, 1), BAD);
        }
        for (int place : new int[] {-1, 1, 12, LOWEST, HIGHEST}) {
            Due.is("9 place", x.bend(0, place, 0, 1), BAD);
        }
        for (int i : new int[] {-1, 9, 32, LOWEST, HIGHEST}) {
            Due.is("9 i", x.bend(0, 0, i, 1), BAD);
        }
        for (int mask : new int[] {-1, 0, 256, LOWEST, HIGHEST}) {
            Due.is("9 mask", x.bend(0, 0, 3, mask), BAD);
        }
        Due.frameIs("9 refused", x, 0, 0, Due.dataFrame(0, 0x55));
        Due.is("9 bent", x.bend(0, 0, 3, 255), 0xAA);
        Due.is("9 byte", x.wire(0, 0, 6), 0xAA);
        Due.is("9 the last", x.bend(0, 0, 8, 3), 254);
        Due.is("9 read", x.wire(0, 0, READ), SPOILT);
        Due.is("9 back", x.bend(0, 0, 8, 3), 253);
        Due.is("9 back", x.bend(0, 0, 3, 255), 0x55);
        Due.is("9 read", x.wire(0, 0, READ), DATA);
        Due.is("9 first", x.bend(0, 0, 0, 1), 250);
    }

    private static void promise10Lose() {
        Counted x = new Counted();
        x.set(0, 6);
        Due.offerOnes(x, 0, 1, 4);
        x.tick(3);
        for (int wire : new int[] {-1, 1, 2, LOWEST, HIGHEST}) {
            Due.is("10 wire", x.lose(wire, 0), BAD);
        }
        for (int place : new int[] {-1, 3, 12, LOWEST, HIGHEST}) {
            Due.is("10 place", x.lose(0, place), BAD);
        }
        Due.is("10 the middle", x.lose(0, 1), 2);
        Due.frameIs("10 left", x, 0, 0, Due.dataFrame(0, 1));
        Due.frameIs("10 left", x, 0, 1, Due.dataFrame(2, 3));
        x.tick(1);
        Due.frameIs("10 a new one", x, 0, 2, Due.dataFrame(3, 4));
        Due.frameIs("10 left", x, 0, 1, Due.dataFrame(2, 3));
        Due.is("10 the last", x.lose(0, 2), 2);
        Due.is("10 the first", x.lose(0, 0), 1);
        Due.frameIs("10 left", x, 0, 0, Due.dataFrame(2, 3));
        Due.is("10 all", x.lose(0, 0), 0);
        Due.is("10 none", x.lose(0, 0), BAD);
        Due.is("10 still unacked", x.end(0, UNACKED), 4);
    }

    private static void promise11Twice() {
        Counted x = new Counted();
        x.set(0, 5);
        Due.offerOnes(x, 1, 1, 2);
        x.tick(2);
        for (int wire : new int[] {-1, 0, 2, LOWEST, HIGHEST}) {
            Due.is("11 wire", x.twice(wire, 0), BAD);
        }
        for (int place : new int[] {-1, 2, 12, LOWEST, HIGHEST}) {
            Due.is("11 place", x.twice(1, place), BAD);
        }
        Due.is("11 three", x.twice(1, 0), 3);
        Due.frameIs("11 it", x, 1, 0, Due.dataFrame(0, 1));
        Due.frameIs("11 the other one", x, 1, 1, Due.dataFrame(0, 1));
        Due.frameIs("11 behind", x, 1, 2, Due.dataFrame(1, 2));
        Due.is("11 its time", x.wire(1, 0, 1), 4);
        Due.is("11 the same time", x.wire(1, 1, 1), 4);
        Due.is("11 behind", x.wire(1, 2, 1), 5);
        x.bend(1, 1, 3, 4);
        Due.is("11 two frames", x.wire(1, 0, 6), 1);
        for (int there = 4; there <= 12; there++) {
            Due.is("11 the last", x.twice(1, there - 2), there);
        }
        Due.is("11 full", x.twice(1, 11), FULL);
        Due.is("11 BAD ahead of FULL", x.twice(1, 12), BAD);
        Due.is("11 twelve", x.wire(1, -1, 0), 12);
        x.tick(3);
        Due.is("11 two come", x.tick(1), 2);
        Due.is("11 ten come", x.tick(1), 10);
        // The first, a BAD one, the second, and nine repeats.
        Due.counts("11", x, 7, 0, 0, 0, 2, 0, 0, 0, 1, 2, 9, 0, 0, 0, 0, 1, 0, 0);
    }

    private static void promise11LayingOnFullWire() {
        Counted x = new Counted();
        x.set(0, 6);
        Due.offerOnes(x, 0, 1, 3);
        x.tick(1);
        x.set(0, 4);
        x.tick(1);
        for (int there = 3; there <= 12; there++) {
            x.twice(0, 1);
        }
        Due.is("11 twelve", x.wire(0, -1, 0), 12);
        Due.is("11 no frame comes", x.tick(1), 0);
        Due.is("11 twelve still", x.wire(0, -1, 0), 12);
        Due.frameIs("11 the eldest is lost", x, 0, 0, Due.dataFrame(1, 2));
        Due.frameIs("11 the new one", x, 0, 11, Due.dataFrame(2, 3));
        Due.is("11 its time", x.wire(0, 11, 1), 4);
        Due.is("11 those ahead", x.wire(0, 10, 1), 3);
    }

    private static void promise12Wire() {
        Counted x = new Counted();
        x.set(0, 3);
        Due.offer(x, 0, 1, 2, 3);
        for (int i = 0; i < 24; i++) {
            x.draft(0, 1, 200 + i);
        }
        x.offer(0);
        x.tick(2);
        for (int wire : new int[] {-1, 2, LOWEST, HIGHEST}) {
            Due.is("12 wire", x.wire(wire, 0, 0), BAD);
            Due.is("12 wire", x.wire(wire, -1, 0), BAD);
        }
        for (int place : new int[] {-2, 2, 12, LOWEST, HIGHEST}) {
            Due.is("12 place", x.wire(0, place, 0), BAD);
        }
        for (int what : new int[] {-1, 36, LOWEST, HIGHEST}) {
            Due.is("12 what", x.wire(0, 0, what), BAD);
            Due.is("12 how many", x.wire(0, -1, what), 2);
        }
        Due.is("12 none on the other", x.wire(1, -1, 0), 0);
        Due.is("12 place on the other", x.wire(1, 0, 0), BAD);
        Due.is("12 bytes", x.wire(0, 0, 0), 11);
        Due.is("12 bytes", x.wire(0, 1, 0), 32);
        Due.is("12 in ticks", x.wire(0, 0, 1), 2);
        Due.is("12 in ticks", x.wire(0, 1, 1), 3);
        Due.frameIs("12 frame", x, 0, 0, Due.dataFrame(0, 1, 2, 3));
        int[] packet = new int[24];
        for (int i = 0; i < 24; i++) {
            packet[i] = 200 + i;
        }
        Due.frameIs("12 frame", x, 0, 1, Due.dataFrame(1, packet));
        x.tick(1);
        Due.is("12 the next one", x.wire(0, 0, 1), 1);
    }

    private static void readIs(String name, Counted x, int wire, int[] frame, int want) {
        Due.forge(x, wire, 0, frame);
        Due.is("12 read " + name, x.wire(wire, 0, READ), want);
    }

    private static int[] with(int[] frame, int i, int value) {
        int[] other = frame.clone();
        other[i] = value;
        return other;
    }

    private static void promise12ReadAs() {
        Counted x = new Counted();
        x.set(2, 0);
        Due.offerOnes(x, 0, 9, 10);
        x.tick(2);
        // Wire 0 holds the second packet, wire 1 the ACK of the first.
        readIs("DATA", x, 0, Due.dataFrame(63, 1), DATA);
        readIs("number 64", x, 0, Due.dataFrame(64, 1), SPOILT);
        readIs("number 255", x, 0, Due.voidFrame(255, 1), SPOILT);
        readIs("VOID", x, 0, Due.voidFrame(63, 1), VOID);
        readIs("VOID's check, DATA's end", x, 0, with(Due.voidFrame(3, 1), 8, 253), SPOILT);
        readIs("DATA's check, VOID's end", x, 0, with(Due.dataFrame(3, 1), 8, 254), SPOILT);
        readIs("another end", x, 0, with(Due.dataFrame(3, 1), 8, 255), SPOILT);
        readIs("another begin", x, 0, with(Due.dataFrame(3, 1), 0, 250), SPOILT);
        readIs("another second byte", x, 0, with(Due.dataFrame(3, 1), 1, 1), SPOILT);
        readIs("the check's last byte", x, 0, with(Due.dataFrame(3, 1), 7,
                Due.dataFrame(3, 1)[7] ^ 128), SPOILT);
        readIs("a word's begin", x, 0, with(Due.dataFrame(3, 1), 0, 92), NOTHING);
        int[] long92 = {92, 0, 5, Due.wordFrame(0, 5)[3], Due.wordFrame(0, 5)[4], 253, 0, 0, 253};
        readIs("a word that is too long", x, 0, long92, NOTHING);
        readIs("ACK", x, 1, Due.wordFrame(0, 63), ACK);
        readIs("NAK", x, 1, Due.wordFrame(16, 0), NAK);
        readIs("number 64", x, 1, Due.wordFrame(0, 64), NOTHING);
        readIs("number 255", x, 1, Due.wordFrame(16, 255), NOTHING);
        readIs("another kind", x, 1, Due.wordFrame(1, 3), NOTHING);
        readIs("another kind", x, 1, Due.wordFrame(32, 3), NOTHING);
        readIs("another end", x, 1, with(Due.wordFrame(0, 3), 5, 254), NOTHING);
        readIs("low check", x, 1, with(Due.wordFrame(0, 3), 3, Due.wordFrame(0, 3)[3] ^ 1),
                NOTHING);
        readIs("high check", x, 1, with(Due.wordFrame(0, 3), 4, Due.wordFrame(0, 3)[4] ^ 1),
                NOTHING);
        readIs("DATA's begin", x, 1, with(Due.wordFrame(0, 3), 0, 251), SPOILT);
        readIs("another begin", x, 1, with(Due.wordFrame(0, 3), 0, 93), SPOILT);
        Due.is("12 they come", x.tick(1), 2);
        Due.counts("12", x, 3, 0, 0, 0, 2, 0, 0, 1, 1, 1, 0, 0, 0, 0, 0, 1, 1, 0);
        Due.is("12 a NAK for it", x.end(0, NAKKED), 1);
    }

    private static void promise13End() {
        Counted x = new Counted();
        for (int end : new int[] {-1, 2, LOWEST, HIGHEST}) {
            Due.is("13 end", x.end(end, 0), BAD);
        }
        for (int what : new int[] {-1, 14, LOWEST, HIGHEST}) {
            Due.is("13 what", x.end(0, what), BAD);
        }
        x.set(0, 3);
        Due.offerOnes(x, 0, 1, 3);
        x.draft(0, 7, 0);
        x.draft(1, 2, 0);
        x.tick(2);
        Due.ends("13", x, 0, 1, 2, 2, 63, 1, 0, 0, 0, 0, NONE, 0, 3, 0, 7);
        Due.ends("13", x, 1, 0, 0, 0, 63, 0, 0, 0, 0, 0, NONE, 0, 0, 0, 2);
        x.set(1, 2);
        x.tick(1);
        Due.ends("13", x, 0, 1, 2, 2, 63, 0, 1, 1, 0, 0, NONE, 0, 3, 0, 7);
        x.bend(0, 0, 3, 1);
        x.tick(1);
        Due.ends("13", x, 1, 0, 0, 0, 63, 0, 0, 0, 0, 1, NONE, 0, 0, 0, 2);
        nakIsSeenDue();
    }

    /** A NAK stays due when training begins in the tick that made it. */
    private static void nakIsSeenDue() {
        Counted x = new Counted();
        x.set(1, 1);
        x.set(2, 9);
        Due.offer(x, 0, 1);
        x.tick(1);
        x.lose(0, 0);
        x.tick(1);
        x.lose(0, 0);
        x.tick(2);
        // Laid again in 3, come in 4 and handed up; laid again in 4: bent, it comes in 5.
        x.bend(0, 0, 3, 1);
        x.tick(1);
        Due.is("13 training", x.count(TRAINING), 5);
        Due.ends("13 NAK is due", x, 1, 0, 0, 0, 63, 0, 0, 0, 1, 1, 7, 1, 0, 1, 0);
        x.tick(5);
        Due.ends("13 NAK is due", x, 1, 0, 0, 0, 63, 0, 0, 0, 1, 1, 7, 1, 0, 1, 0);
        x.tick(1);
        Due.frameIs("13 NAK", x, 1, 0, Due.wordFrame(16, 0));
        Due.ends("13 NAK is not due", x, 1, 0, 0, 0, 63, 0, 0, 0, 1, 1, NONE, 0, 0, 1, 0);
    }

    private static void promise14And15Up() {
        Counted x = new Counted();
        Due.offer(x, 0, 255, 0, 128);
        Due.offer(x, 0, 7);
        x.settle(50);
        for (int end : new int[] {-1, 2, LOWEST, HIGHEST}) {
            Due.is("14 end", x.up(end, 0), BAD);
            Due.is("15 end", x.upByte(end, 0, 0), BAD);
        }
        for (int i : new int[] {-1, LOWEST}) {
            Due.is("14 i", x.up(1, i), BAD);
            Due.is("15 i", x.upByte(1, i, 0), BAD);
            Due.is("15 k", x.upByte(1, 0, i), BAD);
            Due.is("15 k of none", x.upByte(1, 5, i), BAD);
        }
        for (int i : new int[] {2, 59, 60, HIGHEST}) {
            Due.is("14 none", x.up(1, i), NONE);
            Due.is("15 none", x.upByte(1, i, 0), NONE);
        }
        Due.upIs("14", x, 1, 0, 255, 0, 128);
        Due.upIs("14", x, 1, 1, 7);
        Due.is("15 no byte", x.upByte(1, 0, 24), NONE);
        Due.is("15 no byte", x.upByte(1, 0, HIGHEST), NONE);
        Due.is("14 the other end", x.up(0, 0), NONE);
        Due.is("15 the other end", x.upByte(0, 0, 0), NONE);
    }

    private static void promise14And15UpPast60() {
        Counted x = new Counted();
        for (int i = 0; i < 59; i++) {
            Due.offer(x, 0, i);
            if (i % 15 == 14) {
                x.settle(400);
            }
        }
        x.settle(400);
        Due.offer(x, 0, 59);
        x.tick(1);
        for (int number = 60; number < 66; number++) {
            x.twice(0, number - 60);
            Due.forge(x, 0, number - 59, Due.dataFrame(number % 64, 100 + number));
        }
        Due.is("14 all come", x.tick(1), 7);
        Due.is("14 all are counted", x.end(1, HANDED_UP), 66);
        Due.is("14 all are counted", x.count(CAME_UP), 66);
        Due.is("14 numbers by 64", x.end(1, WANTED), 2);
        Due.upIs("14 the 60th", x, 1, 59, 59);
        for (int i = 60; i < 67; i++) {
            Due.is("14 not kept", x.up(1, i), NONE);
            Due.is("15 not kept", x.upByte(1, i, 0), NONE);
        }
        x.tick(1);
        Due.frameIs("14 a word ahead", x, 1, 0, Due.wordFrame(0, 1));
        // NEXT is 60: 59 - 1 is 58, so the word is WRONG.
        x.tick(1);
        Due.is("14 WRONG", x.count(CAME_WRONG), 1);
        Due.is("14 still unacked", x.end(0, UNACKED), 1);
    }

    private static void promise16Count() {
        Counted x = new Counted();
        for (int what : new int[] {-1, 18, LOWEST, HIGHEST}) {
            Due.is("16", x.count(what), BAD);
        }
        x.set(1, 60);
        Due.offerOnes(x, 0, 1, 2);
        Due.offer(x, 1, 3);
        x.voids(0);
        x.tick(1);
        Due.counts("16 tick 1", x, 1, 0, 0, 0, 1, 0, 1, 0, 0, 0, 0, 0, 0, 0, 0, 0, 0, 0);
        x.tick(1);
        Due.counts("16 tick 2", x, 2, 0, 0, 0, 2, 0, 1, 0, 0, 1, 0, 0, 1, 0, 0, 0, 0, 0);
        x.twice(0, 0);
        x.tick(1);
        Due.counts("16 tick 3", x, 3, 0, 0, 0, 2, 0, 1, 1, 0, 2, 1, 0, 1, 0, 0, 0, 0, 0);
        // The ACK of END 0 becomes BAD, a twin of it NOTHING.
        x.twice(0, 0);
        x.bend(0, 0, 0, 1);
        x.bend(0, 1, 2, 1);
        x.tick(1);
        Due.counts("16 tick 4", x, 4, 0, 0, 0, 3, 0, 1, 1, 1, 2, 1, 0, 1, 0, 0, 1, 1, 0);
        // END 1's NAK of 0 comes twice, once with 33, which END 0 with NEXT 2 holds for WRONG.
        x.twice(1, 0);
        Due.forge(x, 1, 0, Due.wordFrame(16, 33));
        Due.forge(x, 0, 0, Due.dataFrame(4, 2));
        x.tick(1);
        Due.counts("16 tick 5", x, 5, 0, 0, 1, 3, 1, 1, 1, 1, 2, 1, 1, 1, 2, 1, 1, 1, 0);
        x.settle(400);
        Due.is("16 quiet", x.count(QUIET), 1);
    }

    private static void promise17And18KeepAgain() {
        Counted x = new Counted();
        for (int k : new int[] {-1, 2, LOWEST, HIGHEST}) {
            Due.is("17 k", x.keep(k), BAD);
            Due.is("18 k", x.again(k), BAD);
        }
        Due.is("18 nothing", x.again(0), NO);
        Due.is("18 nothing", x.again(1), NO);
        x.tick(3);
        Due.is("17 first", x.keep(1), 0);
        Due.is("18 other place", x.again(0), NO);
        x.tick(4);
        Due.is("17 first", x.keep(0), 0);
        Due.is("18", x.again(1), 3);
        Due.is("18 ticks", x.count(TICKS), 3);
        Due.is("17 what is kept stays", x.again(0), 7);
        Due.is("18 twice", x.again(0), 7);
        x.tick(1);
        Due.is("17 over it", x.keep(1), 1);
        Due.is("18", x.again(1), 8);
        Due.is("18", x.again(0), 7);
        Due.is("17 over it", x.keep(0), 1);
    }

    /** One step for each thing an object holds, so that again() has them all to bring back. */
    private static void promise18AgainBringsAllBack() {
        Counted x = new Counted();
        busyWithAll(x);
        long[] before = seen(x);
        x.keep(0);
        x.draft(0, 3, 0xFFFFFFL);
        x.draft(1, 1, 0xFFL);
        Due.offerOnes(x, 1, 50, 58);
        x.bend(0, 0, 1, 77);
        x.twice(0, 0);
        x.set(0, 6);
        x.set(1, 44);
        x.set(2, 7);
        x.voids(1);
        x.settle(400);
        Due.is("18", x.again(0), 6);
        long[] after = seen(x);
        for (int i = 0; i < before.length; i++) {
            Due.is("18 seen " + i, after[i], before[i]);
        }
        Due.is("18 DELAY", x.set(0, 3), 3);
        Due.is("18 R", x.set(1, 5), 5);
        Due.is("18 A", x.set(2, 1), 1);
        Due.is("18 voids", x.voids(0), 1);
        Due.is("18 voids", x.voids(1), 0);
    }

    private static void promise18GoesOnAlike() {
        Counted x = new Counted();
        busyWithAll(x);
        x.keep(1);
        x.settle(400);
        long[] once = seen(x);
        x.again(1);
        x.settle(400);
        long[] anew = seen(x);
        for (int i = 0; i < once.length; i++) {
            Due.is("18 goes on alike " + i, anew[i], once[i]);
        }
    }

    /** Kept packets are not those that the object writes over what it had. */
    private static void promise18PacketsOfTheirOwn() {
        Counted x = new Counted();
        Due.offerOnes(x, 0, 1, 3);
        x.keep(0);
        x.settle(50);
        x.keep(1);
        for (int i = 0; i < 24; i++) {
            Due.offer(x, 0, 100 + i, 200);
            x.settle(50);
        }
        x.again(0);
        x.settle(50);
        for (int i = 0; i < 3; i++) {
            Due.upIs("18 waited then", x, 1, i, i + 1);
        }
        x.again(0);
        x.tick(1);
        x.lose(0, 0);
        x.tick(1);
        Due.forge(x, 0, 0, Due.dataFrame(0, 88));
        x.tick(1);
        Due.upIs("18 another first one", x, 1, 0, 88);
        x.again(1);
        Due.upIs("18 handed up then", x, 1, 0, 1);
        Due.is("18 handed up then", x.end(1, HANDED_UP), 3);
    }

    /** Kept as a NAK is due, an ACK is DUE, a TIMER is under way and TRAINING is on. */
    private static void promise18AmidTraining() {
        Counted x = new Counted();
        x.set(0, 2);
        x.set(1, 2);
        x.set(2, 9);
        Due.offer(x, 0, 1);
        // Laid in tick 1, and again in 3, 5, 7; handed up in 3; the last of them is to come in 9.
        x.tick(7);
        x.bend(0, 0, 3, 1);
        Due.offer(x, 1, 7);
        x.tick(2);
        Due.is("18 training", x.count(TRAINING), 5);
        Due.ends("18 amid training", x, 1, 0, 1, 1, 63, 1, 0, 0, 1, 1, 2, 1, 1, 1, 0);
        long[] kept = seen(x);
        x.keep(1);
        x.set(1, 60);
        x.settle(400);
        Due.is("18 quiet", x.count(QUIET), 1);
        x.again(1);
        long[] anew = seen(x);
        for (int i = 0; i < kept.length; i++) {
            Due.is("18 amid training " + i, anew[i], kept[i]);
        }
    }

    private static void promise18FullWires() {
        Counted x = new Counted();
        x.set(0, 6);
        Due.offer(x, 0, 1);
        Due.offer(x, 1, 2, 3);
        x.tick(1);
        for (int i = 1; i < 12; i++) {
            x.twice(0, 0);
            x.twice(1, 0);
        }
        x.bend(0, 11, 0, 1);
        x.bend(1, 11, 0, 2);
        x.keep(0);
        x.tick(6);
        Due.is("18 a NAK alone", x.wire(0, -1, 0), 1);
        x.again(0);
        Due.is("18 full again", x.wire(0, -1, 0), 12);
        Due.is("18 full again", x.wire(1, -1, 0), 12);
        Due.is("18 bent", x.wire(0, 11, 3), 250);
        Due.is("18 bent", x.wire(1, 11, 3), 249);
        Due.is("18 all come", x.tick(6), 24);
    }

    private static void busyWithAll(Counted x) {
        x.set(0, 3);
        x.set(1, 5);
        x.set(2, 1);
        Due.offerOnes(x, 0, 1, 5);
        Due.offerOnes(x, 1, 21, 24);
        x.draft(0, 5, 0x0504030201L);
        x.draft(1, 1, 9);
        x.tick(3);
        x.bend(1, 1, 3, 8);
        x.tick(3);
        x.voids(0);
    }

    /** All that wires, ends and counts tell, and the drafts by their checks. */
    private static long[] seen(Counted x) {
        long[] all = new long[210];
        int n = 0;
        for (int what = 0; what < 18; what++) {
            all[n++] = x.count(what);
        }
        for (int side = 0; side < 2; side++) {
            for (int what = 0; what < 14; what++) {
                all[n++] = x.end(side, what);
            }
            all[n++] = x.check(side, 0);
            for (int i = 0; i < 10; i++) {
                all[n++] = x.up(side, i);
                all[n++] = x.upByte(side, i, 0);
            }
            all[n++] = x.wire(side, -1, 0);
            for (int place = 0; place < 5; place++) {
                for (int what = 0; what < 12; what++) {
                    all[n++] = x.wire(side, place, what);
                }
            }
        }
        return all;
    }
}
