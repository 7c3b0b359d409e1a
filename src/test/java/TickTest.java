/**
 * A test for each sentence of the document's Terms on ends, ticks, training and what comes that
 * names a boundary: on both its sides. (TermsTest has those on packets, numbers and frames.)
 */
public final class TickTest implements Names {
    private TickTest() {
    }

    public static void main(String[] args) {
        sixteenWait();
        eightAreUnacked();
        eightUnackedHoldVoidBack();
        firstValues();
        settingsAtFirst();
        sendsAgainFromTheEldestAnew();
        fourthTryTrains();
        fourthTryByTimerTrains();
        triesBeginAnewByAnAcknowledgement();
        trainingIsFor5Ticks();
        trainingClearsWhatWouldStillCome();
        trainingClearsTheOtherWire();
        trainingClearsWhatWasLate();
        bothEndsTrainInOneTick();
        timersRestInTraining();
        ackDueIsNotBelow0();
        timerRestsWithNothingUnacked();
        timerRestsWhileSendingAgain();
        timerIsROrAbove();
        timerIsAboveR();
        ackIsDueInATicks();
        ackThatIsDueIsNotPutOff();
        nakGoesAheadOfAck();
        ackGoesAheadOfAgain();
        againGoesAheadOfNew();
        ackDueIn1LetsOthersGo();
        voidTakesTheTurnOfOne();
        delayIs1To6();
        delayIsAsItIsThen();
        wordIsWrongFrom32();
        wordAcknowledgesFrom1ToUnacked();
        wordOfAckedChangesNothing();
        nakWithNothingUnacked();
        nakThatAcknowledgesAll();
        acknowledgedAreNotSentAgain();
        dataFrom32IsARepeat();
        nakkedOnceTillOneIsHandedUp();
        nakStaysDueWhenOneIsHandedUp();
        voidAndNothingAreDropped();
        eachAloneIsNotQuiet();
        trainingIsNotQuiet();
        Due.finish();
    }

    /** "PACKETS that WAIT (16 at most)". */
    private static void sixteenWait() {
        for (int end = 0; end < 2; end++) {
            Counted x = new Counted();
            Due.offerOnes(x, end, 1, 15);
            Due.is("15 wait", x.end(end, WAITING), 15);
            Due.is("the 16th", Due.offer(x, end, 16), 16);
            Due.is("the 17th", Due.offer(x, end, 17), FULL);
            Due.is("16 wait", x.end(end, WAITING), 16);
            Due.is("the other end", Due.offer(x, 1 - end, 16), 1);
            x.tick(1);
            Due.is("15 wait again", x.end(end, WAITING), 15);
            Due.is("the 17th", x.offer(end), 16);
            Due.is("the 18th", Due.offer(x, end, 18), FULL);
        }
    }

    /** END 0 has eight UNACKED ones, seven of them on WIRE 0, and two that WAIT. */
    private static Counted eightUnacked() {
        Counted x = new Counted();
        x.set(R, 60);
        x.set(A, 9);
        x.set(DELAY, 6);
        Due.offerOnes(x, 0, 1, 10);
        x.tick(7);
        Due.ends("seven", x, 0, 3, 7, 7, 63);
        x.tick(1);
        Due.ends("eight", x, 0, 2, 8, 8, 63);
        return x;
    }

    /** "UNACKED ones (8 at most)", "if fewer than 8 are UNACKED". */
    private static void eightAreUnacked() {
        Counted x = eightUnacked();
        x.tick(1);
        Due.ends("no ninth", x, 0, 2, 8, 8, 63);
        Due.is("eight were laid", x.count(LAID_FIRST), 8);
        // END 1 took the first one in tick 7; its ACK is laid in 15 and comes in 21.
        x.tick(6);
        Due.is("an ACK", x.wire(1, 0, READ), ACK);
        Due.forge(x, 1, 0, Due.wordFrame(ACK_BYTE, 0));
        x.tick(5);
        Due.ends("no ninth yet", x, 0, 2, 8, 8, 63);
        x.tick(1);
        Due.ends("seven and the ninth", x, 0, 1, 8, 9, 0);
        x.tick(1);
        Due.ends("no tenth", x, 0, 1, 8, 9, 0);
        x.settle(400);
        Due.is("all came", x.end(1, HANDED_UP), 10);
    }

    /** "if fewer than 8 are UNACKED and a PACKET WAITS: VOID, if that was told". */
    private static void eightUnackedHoldVoidBack() {
        Counted x = eightUnacked();
        x.voids(0);
        x.tick(12);
        Due.is("no VOID with eight", x.count(LAID_VOID), 0);
        Due.is("told still", x.voids(0), 1);
        x.tick(1);
        Due.is("a VOID with none", x.count(LAID_VOID), 1);
        Due.ends("both still wait", x, 0, 2, 0, 8, 7);
        Counted y = new Counted();
        y.voids(0);
        y.tick(3);
        Due.is("no VOID while none waits", y.count(LAID_VOID), 0);
        Due.is("told still", y.voids(0), 1);
    }

    /** "NEXT (.. 0 at first), ACKED (63 at first), a TIMER and TRIES (0)", "WANTED (0 ..)". */
    private static void firstValues() {
        Counted x = new Counted();
        for (int end = 0; end < 2; end++) {
            Due.ends("at first", x, end, 0, 0, 0, 63, 0, 0, 0, 0, 0, NONE, 0, 0, 0, 0);
        }
        Due.offer(x, 0, 1);
        x.tick(1);
        Due.frameIs("the first NUMBER", x, 0, 0, Due.dataFrame(0, 1));
        Due.ends("one sent", x, 0, 0, 1, 1, 63);
        x.settle(9);
        Due.ends("one acknowledged", x, 0, 0, 0, 1, 0);
        Due.is("WANTED", x.end(1, WANTED), 1);
    }

    /** "R, A, DELAY are 12, 2, 1 at first." */
    private static void settingsAtFirst() {
        Counted x = new Counted();
        Due.offer(x, 0, 1);
        x.tick(1);
        Due.is("DELAY 1", x.wire(0, 0, IN_TICKS), 1);
        Due.is("DELAY 1", x.tick(1), 1);
        Due.is("A 2, less one", x.end(1, ACK_DUE), 1);
        Due.is("no ACK yet", x.wire(1, -1, 0), 0);
        x.tick(1);
        Due.is("an ACK", x.wire(1, -1, 0), 1);
        x.lose(1, 0);
        x.tick(9);
        Due.ends("R 12", x, 0, 0, 1, 1, 63, 11, 0, 0);
        x.tick(1);
        Due.ends("R 12", x, 0, 0, 1, 1, 63, 0, 1, 0);
    }

    /**
     * A is 0, R 60: an END's two packets were handed up, and each TICK's ACK was forged to be a
     * NAK of nothing, so many times. The eldest is on its wire again, an ACK on the other.
     */
    private static Counted tried(int end, int tries) {
        Counted x = new Counted();
        x.set(R, 60);
        x.set(A, 0);
        Due.offerOnes(x, end, 1, 2);
        x.tick(2);
        for (int i = 1; i <= tries; i++) {
            nakNothing(x, 1 - end);
            x.tick(1);
            Due.is("tries", x.end(end, TRIES), i);
        }
        Due.is("a frame", x.wire(end, -1, 0), 1);
        Due.is("an ACK", x.wire(1 - end, 0, READ), ACK);
        return x;
    }

    /** The word on a wire becomes a NAK that acknowledges none. */
    private static void nakNothing(Counted x, int wire) {
        Due.forge(x, wire, 0, Due.wordFrame(NAK_BYTE, 63));
    }

    /** The fourth NAK came in the last TICK, the sixth; A is 0, R 60. */
    private static Counted training(int end) {
        Counted x = tried(end, 3);
        nakNothing(x, 1 - end);
        x.tick(1);
        Due.is("training", x.count(TRAINING), 5);
        return x;
    }

    /** "all UNACKED are to be sent AGAIN, the eldest first, from that on anew". */
    private static void sendsAgainFromTheEldestAnew() {
        Counted x = tried(0, 1);
        Due.frameIs("the eldest first", x, 0, 0, Due.dataFrame(0, 1));
        Due.is("one is left", x.end(0, AGAIN), 1);
        x.lose(1, 0);
        x.tick(1);
        Due.frameIs("then the other", x, 0, 0, Due.dataFrame(1, 2));
        Due.is("none is left", x.end(0, AGAIN), 0);
        Counted y = tried(0, 1);
        nakNothing(y, 1);
        y.tick(1);
        Due.frameIs("the eldest anew", y, 0, 0, Due.dataFrame(0, 1));
        Due.is("one is left anew", y.end(0, AGAIN), 1);
        Due.is("SENDINGS AGAIN", y.count(SENDINGS_AGAIN), 2);
    }

    /** "If TRIES is 4 then: TRAINING": not by the third. */
    private static void fourthTryTrains() {
        for (int end = 0; end < 2; end++) {
            Counted x = tried(end, 3);
            Due.counts("the third", x, 5, 0, 0, 3);
            Due.ends("the third", x, end, 0, 2, 2, 63, 0, 3, 1);
            nakNothing(x, 1 - end);
            x.tick(1);
            Due.counts("the fourth", x, 6, 5, 1, 4);
            Due.ends("the fourth", x, end, 0, 2, 2, 63, 0, 0, 2);
            Due.is("all is gone", x.wire(0, -1, 0), 0);
            Due.is("all is gone", x.wire(1, -1, 0), 0);
        }
    }

    private static void fourthTryByTimerTrains() {
        Counted x = new Counted();
        x.set(R, 1);
        x.set(DELAY, 6);
        Due.offer(x, 0, 1);
        x.tick(4);
        Due.counts("the third", x, 4, 0, 0, 3, 1, 3);
        Due.ends("the third", x, 0, 0, 1, 1, 63, 0, 3, 0);
        Due.is("on the wire", x.wire(0, -1, 0), 4);
        x.tick(1);
        Due.counts("the fourth", x, 5, 5, 1, 4, 1, 3);
        Due.ends("the fourth", x, 0, 0, 1, 1, 63, 0, 0, 1);
        Due.is("all is gone", x.wire(0, -1, 0), 0);
    }

    /** "if it is 1 to how many are UNACKED, .. TIMER and TRIES are 0", so no fourth one follows. */
    private static void triesBeginAnewByAnAcknowledgement() {
        Counted x = tried(0, 3);
        Due.forge(x, 1, 0, Due.wordFrame(ACK_BYTE, 0));
        x.tick(1);
        Due.ends("an ACK of one", x, 0, 0, 1, 2, 0, 0, 0, 0);
        Due.forge(x, 1, 0, Due.wordFrame(NAK_BYTE, 0));
        x.tick(1);
        Due.ends("a NAK of none", x, 0, 0, 1, 2, 0, 0, 1, 0);
        Counted y = tried(0, 3);
        Due.forge(y, 1, 0, Due.wordFrame(NAK_BYTE, 0));
        y.tick(1);
        Due.ends("a NAK of one", y, 0, 0, 1, 2, 0, 0, 1, 0);
        Due.is("no training", y.count(TRAININGS), 0);
        Counted z = tried(0, 3);
        Due.forge(z, 1, 0, Due.wordFrame(ACK_BYTE, 63));
        z.tick(1);
        Due.is("an ACK of none", z.end(0, TRIES), 3);
    }

    /** "TRAINING, for 5 TICKS (this one is not counted)"; LAYING: none in the last of them. */
    private static void trainingIsFor5Ticks() {
        for (int end = 0; end < 2; end++) {
            Counted x = training(end);
            Due.offer(x, 1 - end, 9);
            for (int left = 4; left >= 0; left--) {
                Due.is("nothing comes", x.tick(1), 0);
                Due.is("training", x.count(TRAINING), left);
                Due.is("nothing is laid", x.wire(0, -1, 0) + x.wire(1, -1, 0), 0);
                Due.is("to be sent again", x.end(end, AGAIN), 2);
            }
            Due.is("six ticks and five", x.count(TICKS), 11);
            x.tick(1);
            Due.is("training is over", x.count(TRAINING), 0);
            Due.frameIs("the eldest", x, end, 0, Due.dataFrame(0, 1));
            Due.is("one of the other end", x.wire(1 - end, -1, 0), 1);
            Due.is("one training", x.count(TRAININGS), 1);
        }
    }

    /** "all that is on both WIRES is gone (also what would still come in this TICK)". */
    private static void trainingClearsWhatWouldStillCome() {
        Counted x = tried(0, 2);
        nakNothing(x, 1);
        x.twice(1, 0);
        x.twice(1, 0);
        // On WIRE 0 the packet comes, on WIRE 1 the third and the fourth, but not the fifth.
        Due.is("three come", x.tick(1), 3);
        Due.is("words came", x.count(CAME_WORD), 4);
        Due.counts("one training", x, 5, 5, 1, 4);
        Due.ends("its tries", x, 0, 0, 2, 2, 63, 0, 0, 2);
        Due.is("the wire is empty", x.wire(1, -1, 0), 0);
        Counted y = tried(0, 1);
        nakNothing(y, 1);
        y.twice(1, 0);
        Due.is("three come", y.tick(1), 3);
        Due.counts("no training", y, 4, 0, 0, 3);
    }

    /** WIRE 0 comes first: a NAK there leaves nothing to come on WIRE 1. */
    private static void trainingClearsTheOtherWire() {
        Counted x = tried(1, 3);
        nakNothing(x, 0);
        int repeats = x.count(CAME_REPEAT);
        Due.is("to come on WIRE 1", x.wire(1, 0, IN_TICKS), 1);
        Due.is("only the NAK comes", x.tick(1), 1);
        Due.is("no packet came", x.count(CAME_REPEAT), repeats);
        Due.is("no ACK is due", x.end(0, ACK_DUE), NONE);
        Counted y = tried(0, 3);
        nakNothing(y, 1);
        Due.is("to come on WIRE 0", y.wire(0, 0, IN_TICKS), 1);
        Due.is("packet and NAK come", y.tick(1), 2);
    }

    private static void trainingClearsWhatWasLate() {
        Counted x = new Counted();
        x.set(R, 1);
        x.set(DELAY, 6);
        Due.offer(x, 0, 1);
        x.tick(3);
        Due.offer(x, 1, 2);
        x.tick(1);
        Due.is("on WIRE 0", x.wire(0, -1, 0), 4);
        Due.is("on WIRE 1", x.wire(1, 0, IN_TICKS), 6);
        x.tick(1);
        Due.is("training", x.count(TRAINING), 5);
        Due.is("gone from WIRE 0", x.wire(0, -1, 0), 0);
        Due.is("gone from WIRE 1", x.wire(1, -1, 0), 0);
        Due.is("nothing comes", x.tick(5), 0);
    }

    /** TIMERS rest only if TRAINING "was on as the TICK began": END 1 trains behind END 0. */
    private static void bothEndsTrainInOneTick() {
        Counted x = new Counted();
        x.set(R, 1);
        x.set(DELAY, 6);
        Due.offer(x, 0, 1);
        Due.offer(x, 1, 2);
        x.tick(4);
        Due.counts("the third of each", x, 4, 0, 0, 6);
        x.tick(1);
        Due.counts("the fourth of each", x, 5, 5, 2, 8);
        Due.is("tries", x.end(0, TRIES) + x.end(1, TRIES), 0);
        x.tick(5);
        Due.counts("training is over", x, 10, 0, 2, 8, 2, 6);
        x.tick(1);
        Due.counts("sent again", x, 11, 0, 2, 8, 2, 8);
    }

    /** TIMERS: "none while TRAINING was on as the TICK began", up to its last TICK. */
    private static void timersRestInTraining() {
        Counted x = tried(0, 3);
        x.set(A, 9);
        x.lose(1, 0);
        x.tick(1);
        Due.is("tick 6: an ACK is due", x.end(1, ACK_DUE), 8);
        Due.offer(x, 1, 7);
        x.tick(1);
        Due.ends("tick 7", x, 0, 0, 2, 2, 63, 1, 3, 0);
        x.set(R, 2);
        x.tick(1);
        // END 0's timer is over. Training begins in this TICK: its TIMERS go on at END 1.
        Due.is("tick 8: training", x.count(TRAINING), 5);
        x.set(R, 60);
        for (int ticks = 8; ticks <= 13; ticks++) {
            Due.ends("tick " + ticks, x, 0, 0, 2, 2, 63, 0, 0, 2, 1, 0, 8, 0);
            Due.ends("tick " + ticks, x, 1, 0, 1, 1, 63, 1, 0, 0, 2, 0, 6, 0);
            x.tick(1);
        }
        Due.ends("tick 14", x, 0, 0, 2, 2, 63, 0, 0, 1, 1, 0, 7, 0);
        Due.ends("tick 14", x, 1, 0, 1, 1, 63, 2, 0, 0, 2, 0, 5, 0);
    }

    /** "an ACK that is DUE has one TICK less (not below 0)": it is laid behind the training. */
    private static void ackDueIsNotBelow0() {
        Counted x = training(0);
        Due.is("due in 0", x.end(1, ACK_DUE), 0);
        x.tick(5);
        Due.is("due in 0 still", x.end(1, ACK_DUE), 0);
        Due.is("none is laid", x.wire(1, -1, 0), 0);
        x.tick(1);
        Due.is("not due any more", x.end(1, ACK_DUE), NONE);
        Due.frameIs("laid", x, 1, 0, Due.wordFrame(ACK_BYTE, 1));
    }

    /** "if something is UNACKED .., the TIMER is one more". */
    private static void timerRestsWithNothingUnacked() {
        Counted x = new Counted();
        x.tick(100);
        Due.is("nothing unacked", x.end(0, TIMER), 0);
        Due.is("nothing sent again", x.count(SENDINGS_AGAIN), 0);
        Due.offer(x, 0, 1);
        x.tick(1);
        Due.is("laid behind the TIMERS", x.end(0, TIMER), 0);
        x.tick(1);
        Due.is("one unacked", x.end(0, TIMER), 1);
        x.settle(9);
        x.tick(100);
        Due.is("nothing unacked", x.end(0, TIMER), 0);
        Due.is("nothing sent again", x.count(SENDINGS_AGAIN), 0);
    }

    /** "and nothing is to be sent AGAIN". */
    private static void timerRestsWhileSendingAgain() {
        Counted x = tried(0, 1);
        Due.is("one is to be sent again", x.end(0, AGAIN), 1);
        x.lose(1, 0);
        x.tick(1);
        Due.ends("it was, as the TIMERS went", x, 0, 0, 2, 2, 63, 0, 1, 0);
        x.lose(1, 0);
        x.tick(1);
        Due.ends("none was", x, 0, 0, 2, 2, 63, 1, 1, 0);
    }

    /** "if it is R or above then, it SENDS AGAIN". */
    private static void timerIsROrAbove() {
        for (int r : new int[] {1, 2, 12, 59, 60}) {
            Counted x = new Counted();
            x.set(R, r);
            Due.offer(x, 0, 1);
            x.tick(1);
            x.lose(0, 0);
            if (r > 1) {
                x.tick(r - 1);
            }
            Due.ends("below R", x, 0, 0, 1, 1, 63, r - 1, 0, 0);
            Due.is("nothing is laid", x.wire(0, -1, 0), 0);
            x.tick(1);
            Due.ends("R", x, 0, 0, 1, 1, 63, 0, 1, 0);
            Due.is("sent again", x.count(SENDINGS_AGAIN), 1);
            Due.frameIs("laid", x, 0, 0, Due.dataFrame(0, 1));
        }
    }

    private static void timerIsAboveR() {
        for (int r : new int[] {1, 30, 31, 32, 33}) {
            Counted x = new Counted();
            x.set(R, 60);
            Due.offer(x, 0, 1);
            x.tick(1);
            x.lose(0, 0);
            x.tick(30);
            x.set(R, r);
            Due.ends("not at once", x, 0, 0, 1, 1, 63, 30, 0, 0);
            x.tick(1);
            boolean over = r <= 31;
            Due.ends("31, R " + r, x, 0, 0, 1, 1, 63, over ? 0 : 31, over ? 1 : 0, 0);
        }
    }

    /** "an ACK is DUE in A TICKS": the TICK in which the packet came has its TIMERS still. */
    private static void ackIsDueInATicks() {
        int[] laidIn = {2, 2, 3, 4, 5, 6, 7, 8, 9, 10};
        for (int a = 0; a <= 9; a++) {
            Counted x = new Counted();
            x.set(A, a);
            x.set(R, 60);
            Due.offer(x, 0, 1);
            x.tick(1);
            for (int ticks = 2; ticks < laidIn[a]; ticks++) {
                x.tick(1);
                Due.is("A " + a + " in tick " + ticks, x.end(1, ACK_DUE), a + 1 - ticks);
                Due.is("no ACK", x.count(LAID_ACK), 0);
            }
            x.tick(1);
            Due.is("A " + a + " in the last", x.end(1, ACK_DUE), NONE);
            Due.is("an ACK", x.count(LAID_ACK), 1);
            Due.frameIs("an ACK", x, 1, 0, Due.wordFrame(ACK_BYTE, 0));
        }
    }

    /** "an ACK is DUE in A TICKS, if none is". */
    private static void ackThatIsDueIsNotPutOff() {
        Counted x = new Counted();
        x.set(A, 4);
        Due.offerOnes(x, 0, 1, 2);
        x.tick(2);
        Due.is("due", x.end(1, ACK_DUE), 3);
        x.twice(0, 0);
        Due.is("one is handed up, one is a repeat", x.tick(1), 2);
        Due.is("due as it was", x.end(1, ACK_DUE), 2);
        x.tick(2);
        Due.frameIs("one ACK", x, 1, 0, Due.wordFrame(ACK_BYTE, 1));
        Due.is("none is due", x.end(1, ACK_DUE), NONE);
        Due.is("one ACK", x.count(LAID_ACK), 1);
    }

    /** "a NAK that is due (an ACK that is DUE is not any more, either); an ACK ..". */
    private static void nakGoesAheadOfAck() {
        for (int a = 0; a <= 9; a += 9) {
            Counted x = new Counted();
            x.set(A, a);
            x.set(R, 60);
            Due.offer(x, 0, 1);
            x.tick(1);
            x.twice(0, 0);
            x.bend(0, 1, 3, 1);
            x.tick(1);
            Due.frameIs("the NAK", x, 1, 0, Due.wordFrame(NAK_BYTE, 0));
            Due.is("one frame", x.wire(1, -1, 0), 1);
            Due.ends("no ACK is due", x, 1, 0, 0, 0, 63, 0, 0, 0, 1, 1, NONE, 0);
            x.tick(20);
            Due.is("no ACK follows", x.count(LAID_ACK), 0);
            Due.is("one NAK", x.count(LAID_NAK), 1);
        }
    }

    /** In tick 10 each END has an ACK that is DUE in 0 TICKS, and its timer is over. */
    private static void ackGoesAheadOfAgain() {
        Counted x = new Counted();
        x.set(A, 9);
        x.set(R, 9);
        Due.offerOnes(x, 0, 1, 3);
        Due.offer(x, 1, 7);
        x.tick(9);
        Due.ends("tick 9", x, 0, 0, 3, 3, 63, 8, 0, 0, 1, 0, 1, 0);
        x.tick(1);
        Due.frameIs("the ACK", x, 0, 0, Due.wordFrame(ACK_BYTE, 0));
        Due.is("one frame", x.wire(0, -1, 0), 1);
        Due.ends("tick 10", x, 0, 0, 3, 3, 63, 0, 1, 3, 1, 0, NONE, 0);
        x.lose(1, 0);
        x.tick(1);
        Due.frameIs("the eldest", x, 0, 0, Due.dataFrame(0, 1));
        Due.is("two are left", x.end(0, AGAIN), 2);
    }

    private static void againGoesAheadOfNew() {
        Counted x = tried(0, 1);
        Due.offer(x, 0, 3);
        x.voids(0);
        x.lose(1, 0);
        x.tick(1);
        Due.frameIs("again", x, 0, 0, Due.dataFrame(1, 2));
        Due.ends("the new one waits", x, 0, 1, 2, 2, 63, 0, 1, 0);
        x.lose(1, 0);
        x.tick(1);
        Due.frameIs("then the VOID", x, 0, 0, Due.voidFrame(2, 3));
        x.lose(1, 0);
        x.tick(1);
        Due.frameIs("then the new one", x, 0, 0, Due.dataFrame(2, 3));
    }

    /** "an ACK that is DUE in 0 TICKS", not in 1. */
    private static void ackDueIn1LetsOthersGo() {
        Counted x = new Counted();
        x.set(A, 3);
        Due.offerOnes(x, 0, 1, 4);
        Due.offer(x, 1, 9);
        x.tick(3);
        Due.is("due in 1", x.end(0, ACK_DUE), 1);
        Due.frameIs("the third", x, 0, 0, Due.dataFrame(2, 3));
        x.tick(1);
        Due.frameIs("the ACK", x, 0, 0, Due.wordFrame(ACK_BYTE, 0));
        Due.is("the fourth waits", x.end(0, WAITING), 1);
        x.tick(1);
        Due.frameIs("the fourth", x, 0, 0, Due.dataFrame(3, 4));
    }

    /** "VOID, if that was told (with NEXT; the PACKET still WAITS), else that, with NEXT". */
    private static void voidTakesTheTurnOfOne() {
        Counted x = new Counted();
        Due.offerOnes(x, 0, 1, 2);
        x.voids(0);
        x.tick(1);
        Due.frameIs("VOID", x, 0, 0, Due.voidFrame(0, 1));
        Due.ends("VOID", x, 0, 2, 0, 0, 63, 0);
        x.tick(1);
        Due.frameIs("the packet", x, 0, 0, Due.dataFrame(0, 1));
        Due.ends("the packet", x, 0, 1, 1, 1, 63, 0);
        x.tick(1);
        Due.frameIs("the other", x, 0, 0, Due.dataFrame(1, 2));
        Due.ends("the other", x, 0, 0, 2, 2, 63, 1);
        Due.counts("laid", x, 3, 0, 0, 0, 2, 0, 1);
    }

    /** "A FRAME that is laid in a TICK comes DELAY TICKS later". */
    private static void delayIs1To6() {
        for (int delay = 1; delay <= 6; delay++) {
            Counted x = new Counted();
            x.set(DELAY, delay);
            Due.offer(x, 0, 1);
            Due.is("laid", x.tick(1), 0);
            for (int left = delay; left > 1; left--) {
                Due.is("in how many", x.wire(0, 0, IN_TICKS), left);
                Due.is("not yet", x.tick(1), 0);
            }
            Due.is("the next one", x.wire(0, 0, IN_TICKS), 1);
            Due.is("it comes", x.tick(1), 1);
            Due.is("it is off the wire", x.wire(0, -1, 0), 0);
        }
    }

    /** "(as DELAY is then)", and "all FRAMES whose time is over come, the eldest first". */
    private static void delayIsAsItIsThen() {
        Counted x = new Counted();
        x.set(DELAY, 3);
        Due.offerOnes(x, 0, 1, 3);
        x.tick(1);
        x.set(DELAY, 2);
        x.tick(1);
        x.set(DELAY, 1);
        Due.is("as it was", x.wire(0, 0, IN_TICKS), 2);
        x.tick(1);
        Due.is("all three come", x.tick(1), 3);
        Due.is("the eldest first", x.end(1, HANDED_UP), 3);
        Counted y = new Counted();
        y.set(DELAY, 3);
        Due.offerOnes(y, 0, 1, 2);
        y.tick(1);
        y.set(DELAY, 1);
        y.tick(1);
        Due.is("the younger comes", y.tick(1), 1);
        Due.is("ahead of its turn", y.count(CAME_ELSE), 1);
        Due.frameIs("the elder is left", y, 0, 0, Due.dataFrame(0, 1));
    }

    /** "if NEXT - 1 - n (by 64) is 32 or above, it is WRONG: nothing", with NEXT 2. */
    private static void wordIsWrongFrom32() {
        int[] numbers = {2, 3, 32, 33, 34, 35, 62, 63};
        for (int number : numbers) {
            Counted x = tried(0, 0);
            Due.forge(x, 1, 0, Due.wordFrame(NAK_BYTE, number));
            x.tick(1);
            boolean wrong = number <= 33;
            String at = "NEXT 2, NAK of " + number;
            Due.is(at, x.count(CAME_WORD), 1);
            Due.is(at, x.count(CAME_WRONG), wrong ? 1 : 0);
            Due.is(at, x.count(SENDINGS_AGAIN), wrong ? 0 : 1);
            Due.ends(at, x, 0, 0, 2, 2, 63, wrong ? 2 : 0, wrong ? 0 : 1, wrong ? 0 : 1);
        }
    }

    /** "if it is 1 to how many are UNACKED": three are, ACKED is 63, the TIMER 3. */
    private static void wordAcknowledgesFrom1ToUnacked() {
        int[] numbers = {62, 63, 0, 1, 2, 3};
        int[] unacked = {3, 3, 2, 1, 0, 3};
        int[] acked = {63, 63, 0, 1, 2, 63};
        int[] timer = {4, 4, 1, 1, 0, 4};
        for (int i = 0; i < numbers.length; i++) {
            Counted x = new Counted();
            x.set(R, 60);
            x.set(A, 3);
            Due.offerOnes(x, 0, 1, 3);
            x.tick(4);
            Due.ends("three", x, 0, 0, 3, 3, 63, 3);
            Due.forge(x, 1, 0, Due.wordFrame(ACK_BYTE, numbers[i]));
            x.tick(1);
            String at = "ACK of " + numbers[i];
            Due.ends(at, x, 0, 0, unacked[i], 3, acked[i], timer[i], 0, 0);
            Due.is(at, x.count(CAME_WRONG), numbers[i] == 3 ? 1 : 0);
        }
    }

    /** d is 0, or above what is UNACKED: an ACK told once more, or one told before it. */
    private static void wordOfAckedChangesNothing() {
        for (int number : new int[] {0, 63, 62}) {
            Counted x = tried(0, 0);
            Due.forge(x, 1, 0, Due.wordFrame(ACK_BYTE, 0));
            x.tick(1);
            Due.ends("ACK of 0", x, 0, 0, 1, 2, 0, 1);
            Due.forge(x, 1, 0, Due.wordFrame(ACK_BYTE, number));
            x.tick(1);
            Due.ends("ACK of " + number, x, 0, 0, 1, 2, 0, 2, 0, 0);
            Due.is("not WRONG", x.count(CAME_WRONG), 0);
        }
    }

    /** "by a NAK, if something is UNACKED, it SENDS AGAIN". */
    private static void nakWithNothingUnacked() {
        Counted x = new Counted();
        x.set(A, 0);
        Due.offer(x, 0, 1);
        x.tick(2);
        x.twice(1, 0);
        Due.forge(x, 1, 1, Due.wordFrame(NAK_BYTE, 0));
        Due.is("ACK and NAK", x.tick(1), 2);
        Due.ends("nothing is unacked", x, 0, 0, 0, 1, 0, 0, 0, 0);
        Due.is("nothing is sent again", x.count(SENDINGS_AGAIN), 0);
        Counted y = new Counted();
        y.set(A, 0);
        Due.offer(y, 0, 1);
        y.tick(2);
        y.twice(1, 0);
        nakNothing(y, 1);
        Due.is("NAK and ACK", y.tick(1), 2);
        Due.is("one was unacked", y.count(SENDINGS_AGAIN), 1);
        Due.ends("the ACK takes it away", y, 0, 0, 0, 1, 0, 0, 0, 0);
        Due.is("nothing is laid", y.count(LAID_AGAIN), 0);
    }

    private static void nakThatAcknowledgesAll() {
        Counted x = tried(0, 0);
        Due.forge(x, 1, 0, Due.wordFrame(NAK_BYTE, 1));
        x.tick(1);
        Due.ends("both", x, 0, 0, 0, 2, 1, 0, 0, 0);
        Due.is("both", x.count(SENDINGS_AGAIN), 0);
        Counted y = tried(0, 0);
        Due.forge(y, 1, 0, Due.wordFrame(NAK_BYTE, 0));
        y.tick(1);
        Due.ends("the first", y, 0, 0, 1, 2, 0, 0, 1, 0);
        Due.is("the first", y.count(SENDINGS_AGAIN), 1);
        Due.frameIs("the second again", y, 0, 0, Due.dataFrame(1, 2));
    }

    /** "(of what is to be sent AGAIN those are not, either)": two of four are, then fewer. */
    private static void acknowledgedAreNotSentAgain() {
        int[] numbers = {63, 0, 1, 2, 3};
        int[] next = {2, 2, 2, 3, NONE};
        for (int d = 0; d <= 4; d++) {
            Counted x = new Counted();
            x.set(A, 9);
            x.set(R, 8);
            Due.offerOnes(x, 0, 10, 13);
            // The timer is over in tick 9; END 1's ACK is laid in 10.
            x.tick(10);
            Due.ends("two are left", x, 0, 0, 4, 4, 63, 0, 1, 2);
            x.lose(0, 0);
            Due.forge(x, 1, 0, Due.wordFrame(ACK_BYTE, numbers[d]));
            x.tick(1);
            int left = next[d] == 2 ? 1 : 0;
            Due.ends(d + " acknowledged", x, 0, 0, 4 - d, 4, numbers[d], 0, d == 0 ? 1 : 0, left);
            if (next[d] == NONE) {
                Due.is("none is laid", x.wire(0, -1, 0), 0);
            } else {
                Due.frameIs("the next", x, 0, 0, Due.dataFrame(next[d], 10 + next[d]));
            }
        }
    }

    /** "d 32 or above: dropped as a REPEAT", "d 1 to 31, and BAD: dropped; .. a NAK is due". */
    private static void dataFrom32IsARepeat() {
        for (int number : new int[] {0, 1, 30, 31, 32, 33, 62, 63}) {
            Counted x = new Counted();
            x.set(A, 0);
            Due.offer(x, 0, 1);
            x.tick(1);
            Due.forge(x, 0, 0, Due.dataFrame(number, 1));
            x.tick(1);
            boolean dropped = number >= 1 && number <= 31;
            String at = "DATA " + number;
            Due.is(at, x.count(CAME_UP), number == 0 ? 1 : 0);
            Due.is(at, x.count(CAME_ELSE), dropped ? 1 : 0);
            Due.is(at, x.count(CAME_REPEAT), number >= 32 ? 1 : 0);
            Due.is(at, x.end(1, WANTED), number == 0 ? 1 : 0);
            Due.is(at, x.end(1, HANDED_UP), number == 0 ? 1 : 0);
            Due.is(at, x.end(1, NAKKED), dropped ? 1 : 0);
            Due.frameIs(at, x, 1, 0,
                    Due.wordFrame(dropped ? NAK_BYTE : ACK_BYTE, number == 0 ? 0 : 63));
        }
    }

    /** "if it is not NAKKED it is, and a NAK is due", "HANDED UP, .. it is not NAKKED". */
    private static void nakkedOnceTillOneIsHandedUp() {
        Counted x = new Counted();
        x.set(R, 60);
        x.set(A, 9);
        Due.offer(x, 0, 1);
        x.tick(1);
        x.bend(0, 0, 3, 2);
        x.tick(1);
        Due.is("a first NAK", x.count(LAID_NAK), 1);
        x.tick(1);
        // The packet again, made to be a BAD one, a repeat, one ahead of its turn, a BAD one.
        for (int i = 0; i < 3; i++) {
            x.twice(0, 0);
        }
        x.bend(0, 0, 3, 2);
        Due.forge(x, 0, 1, Due.dataFrame(63, 1));
        Due.forge(x, 0, 2, Due.dataFrame(1, 1));
        x.bend(0, 3, 3, 2);
        Due.is("four come", x.tick(1), 4);
        Due.is("no other NAK", x.count(LAID_NAK), 1);
        Due.ends("NAKKED", x, 1, 0, 0, 0, 63, 0, 0, 0, 0, 1, 8, 0);
        x.set(R, 1);
        x.tick(1);
        x.set(R, 60);
        x.twice(0, 0);
        x.bend(0, 1, 3, 2);
        Due.is("a good one and a BAD one", x.tick(1), 2);
        Due.is("a second NAK", x.count(LAID_NAK), 2);
        Due.frameIs("a second NAK", x, 1, 0, Due.wordFrame(NAK_BYTE, 0));
        Due.ends("NAKKED anew", x, 1, 0, 0, 0, 63, 0, 0, 0, 1, 1, NONE, 0);
    }

    /** HANDED UP: "it is not NAKKED", which takes no NAK away that is due. */
    private static void nakStaysDueWhenOneIsHandedUp() {
        Counted x = new Counted();
        x.set(R, 60);
        x.set(A, 9);
        Due.offer(x, 0, 1);
        x.tick(1);
        x.twice(0, 0);
        x.bend(0, 0, 3, 2);
        Due.is("a BAD one and a good one", x.tick(1), 2);
        Due.frameIs("the NAK", x, 1, 0, Due.wordFrame(NAK_BYTE, 0));
        Due.ends("not NAKKED", x, 1, 0, 0, 0, 63, 0, 0, 0, 1, 0, NONE, 0);
    }

    /** "VOID, NOTHING: dropped", though the VOID has the NUMBER that is WANTED. */
    private static void voidAndNothingAreDropped() {
        Counted x = new Counted();
        x.set(R, 60);
        x.set(A, 0);
        Due.offer(x, 0, 1);
        x.voids(0);
        x.tick(1);
        Due.is("VOID", x.wire(0, 0, READ), VOID);
        x.tick(1);
        Due.ends("VOID", x, 1, 0, 0, 0, 63, 0, 0, 0, 0, 0, NONE, 0, 0, 0, 0);
        x.bend(0, 0, 0, 251 ^ 92);
        Due.is("NOTHING", x.wire(0, 0, READ), NOTHING);
        x.tick(1);
        Due.ends("NOTHING", x, 1, 0, 0, 0, 63, 0, 0, 0, 0, 0, NONE, 0, 0, 0, 0);
        Due.counts("dropped", x, 3, 0, 0, 0, 1, 0, 1, 0, 0, 0, 0, 0, 1, 0, 0, 0, 1);
        Due.is("no word", x.wire(1, -1, 0), 0);
    }

    /** "QUIET: nothing WAITS, is UNACKED, is DUE or due, no FRAME is on a WIRE, ..". */
    private static void eachAloneIsNotQuiet() {
        for (int end = 0; end < 2; end++) {
            Counted x = new Counted();
            x.draft(end, 1, 1);
            x.voids(1 - end);
            x.keep(0);
            Due.is("a draft, a VOID told, one kept", x.count(QUIET), 1);
            x.offer(end);
            Due.is("one waits", x.count(QUIET), 0);
            x.tick(1);
            x.lose(end, 0);
            Due.is("one is unacked", x.count(QUIET), 0);
            for (int a = 0; a <= 9; a += 9) {
                Counted y = answeredTwice(end, a);
                Due.is("an ACK on its way, or due", y.count(QUIET), 0);
                Due.is("on its way, or due", y.wire(1 - end, -1, 0), a == 0 ? 1 : 0);
                // Due in 8: it is laid then, and comes a tick later.
                Due.is("settles", y.settle(400), a == 0 ? 1 : 9);
                Due.is("quiet", y.count(QUIET), 1);
            }
        }
    }

    /** A packet came, R 1 was over, and it came again as it was acknowledged: A is a then. */
    private static Counted answeredTwice(int end, int a) {
        Counted x = new Counted();
        x.set(R, 1);
        x.set(A, 0);
        Due.offer(x, end, 1);
        x.tick(2);
        x.set(A, a);
        x.tick(1);
        Due.ends("acknowledged", x, end, 0, 0, 1, 0, 0, 0, 0, 0, 0, NONE, 0);
        Due.is("its wire is empty", x.wire(end, -1, 0), 0);
        return x;
    }

    /** ".. no TRAINING is on." */
    private static void trainingIsNotQuiet() {
        Counted x = training(0);
        Due.is("training", x.count(QUIET), 0);
        Due.is("at most", x.settle(5), 5);
        Due.is("training is over, two are unacked", x.count(QUIET), 0);
        // Tick 12: packet and ACK are laid; 13: both come, an ACK of the repeat is laid; 14.
        Due.is("settles", x.settle(400), 3);
        Due.is("quiet", x.count(QUIET), 1);
    }
}
