import java.util.Arrays;
import java.util.zip.CRC32;

/**
 * A test for each sentence of the document's Terms on packets, numbers, frames and words that
 * names a boundary: on both its sides. (TickTest has those on ends and ticks.)
 */
public final class TermsTest implements Names {
    private TermsTest() {
    }

    public static void main(String[] args) {
        usedFor512Calls();
        packetsHave1To24Bytes();
        bytesAre0To255();
        packetsAre60AtMost();
        wantedGoesFrom63To0();
        distancesGoOverTheWrap();
        wordsTellTheNumberAhead();
        nextIsReckonedBy64();
        checkIsAWhole();
        checkTakesTheNumberAsTwoBytes();
        dataHasItsForm();
        voidHasItsForm();
        wordsHaveTheirForm();
        framesThatBeginWith92AreWords();
        dataNumbersAreBelow64();
        wordNumbersAreBelow64();
        readPacketsHave1To24Bytes();
        framesKeepTheirLength();
        Due.finish();
    }

    /** "An object is used for at most 512 calls": the last of them is answered as any other. */
    private static void usedFor512Calls() {
        Counted x = new Counted();
        Due.offer(x, 0, 7, 8);
        x.tick(1);
        for (int i = 0; i < 254; i++) {
            Due.is("512: twice", x.twice(0, 0), 2);
            Due.is("512: lose", x.lose(0, 1), 1);
        }
        Due.is("512 calls", x.calls(), Counted.MOST_CALLS);
        Counted y = new Counted();
        Due.offer(y, 0, 7);
        y.tick(1);
        for (int i = 0; i < 507; i++) {
            Due.is("512: bend", y.bend(0, 0, 3, 1), i % 2 == 0 ? 6 : 7);
        }
        // It is bent: END 1 says NAK in tick 2, it is laid again in 3, comes in 4, ACK 5 and 6.
        Due.is("512: settle", y.settle(400), 5);
        Due.is("512: the last", y.upByte(1, 0, 0), 7);
        Due.is("512 calls", y.calls(), Counted.MOST_CALLS);
    }

    /** "PACKETS are rows of 1 to 24 bytes". */
    private static void packetsHave1To24Bytes() {
        Counted x = new Counted();
        Due.is("no byte", x.offer(0), NO);
        x.draft(0, 1, 5);
        Due.is("1 byte", x.offer(0), 1);
        x.draft(0, 8, 0x0807060504030201L);
        x.draft(0, 8, 0x1817161514131211L);
        x.draft(0, 7, 0x27262524232221L);
        Due.is("24 bytes", x.draft(0, 1, 0x28), 24);
        Due.is("a 25th byte", x.draft(0, 1, 0x29), FULL);
        Due.is("24 bytes", x.offer(0), 2);
        x.settle(50);
        Due.upIs("1 byte", x, 1, 0, 5);
        Due.upIs("24 bytes", x, 1, 1, 1, 2, 3, 4, 5, 6, 7, 8, 17, 18, 19, 20, 21, 22, 23, 24,
                33, 34, 35, 36, 37, 38, 39, 40);
        Due.is("two packets", x.end(1, HANDED_UP), 2);
    }

    /** "bytes (0 to 255)". */
    private static void bytesAre0To255() {
        Counted x = new Counted();
        x.draft(0, 1, 0);
        x.draft(0, 1, 255);
        x.draft(0, 1, 256);
        x.draft(0, 1, -1);
        x.draft(0, 1, 128);
        x.draft(0, 1, 127);
        x.offer(0);
        x.tick(1);
        Due.frameIs("bytes", x, 0, 0, Due.dataFrame(0, 0, 255, 0, 255, 128, 127));
        Due.is("bent to 0", x.bend(0, 0, 4, 255), 0);
        Due.is("bent to 255", x.bend(0, 0, 4, 255), 255);
        x.settle(50);
        Due.upIs("bytes", x, 1, 0, 0, 255, 0, 255, 128, 127);
    }

    /** "60 at most of each END in all". */
    private static void packetsAre60AtMost() {
        Counted x = new Counted();
        for (int i = 1; i <= 60; i++) {
            for (int end = 0; end < 2; end++) {
                Due.is("packet " + i, Due.offer(x, end, i), (i - 1) % 12 + 1);
            }
            if (i % 12 == 0) {
                x.settle(400);
            }
        }
        for (int end = 0; end < 2; end++) {
            Due.is("60 offered", x.end(end, OFFERED), 60);
            Due.is("none waits", x.end(end, WAITING), 0);
            Due.is("the 61st", Due.offer(x, end, 61), FULL);
            Due.is("60 offered still", x.end(end, OFFERED), 60);
            Due.is("none waits still", x.end(end, WAITING), 0);
            Due.is("its draft stays", x.end(end, DRAFT), 1);
            Due.is("60 came", x.end(end, HANDED_UP), 60);
        }
        Due.is("quiet", x.count(QUIET), 1);
    }

    /** END 1 wants 63: behind 59, the NUMBER of END 0's 60th packet, it was handed forged ones. */
    private static Counted wanting63() {
        Counted x = new Counted();
        for (int i = 0; i < 59; i++) {
            Due.offer(x, 0, i);
            if (i % 15 == 14) {
                x.settle(400);
            }
        }
        x.settle(400);
        x.set(A, 0);
        x.set(R, 60);
        Due.offer(x, 0, 59);
        x.tick(1);
        for (int number = 60; number <= 62; number++) {
            x.twice(0, number - 60);
            Due.forge(x, 0, number - 59, Due.dataFrame(number, 59));
        }
        Due.is("59 to 62 come", x.tick(1), 4);
        Due.is("63 are handed up", x.end(1, HANDED_UP), 63);
        Due.is("63 is wanted", x.end(1, WANTED), 63);
        Due.frameIs("62 is acknowledged", x, 1, 0, Due.wordFrame(ACK_BYTE, 62));
        // So that a frame to forge is laid once more.
        Due.forge(x, 1, 0, Due.wordFrame(NAK_BYTE, 58));
        x.tick(1);
        Due.is("59 is laid again", x.wire(0, 0, BYTES + 2), 59);
        return x;
    }

    /** "NUMBERS are 0 to 63, reckoned by 64": 0 is wanted behind 63. */
    private static void wantedGoesFrom63To0() {
        Counted x = wanting63();
        Due.forge(x, 0, 0, Due.dataFrame(63, 1));
        x.tick(1);
        Due.is("63 is handed up", x.end(1, HANDED_UP), 64);
        Due.is("0 is wanted", x.end(1, WANTED), 0);
        Due.frameIs("63 is acknowledged", x, 1, 0, Due.wordFrame(ACK_BYTE, 63));
        Counted y = wanting63();
        y.twice(0, 0);
        y.twice(0, 0);
        Due.forge(y, 0, 0, Due.dataFrame(63, 1));
        Due.forge(y, 0, 1, Due.dataFrame(0, 2));
        Due.forge(y, 0, 2, Due.dataFrame(63, 1));
        Due.is("they come", y.tick(1), 3);
        Due.is("63 and 0 are handed up", y.end(1, HANDED_UP), 65);
        Due.is("1 is wanted", y.end(1, WANTED), 1);
        Due.is("63 is a repeat then", y.count(CAME_REPEAT), 1);
        Due.frameIs("0 is acknowledged", y, 1, 0, Due.wordFrame(ACK_BYTE, 0));
    }

    /** "n - WANTED (by 64)", where 63 is WANTED: 63, 0, 30, 31 and 62 are 0, 1, 31, 32, 63. */
    private static void distancesGoOverTheWrap() {
        int[] numbers = {63, 0, 30, 31, 62};
        int[] counted = {CAME_UP, CAME_ELSE, CAME_ELSE, CAME_REPEAT, CAME_REPEAT};
        for (int i = 0; i < numbers.length; i++) {
            Counted x = wanting63();
            Due.forge(x, 0, 0, Due.dataFrame(numbers[i], 1));
            int before = x.count(counted[i]);
            String at = "wants 63, is told " + numbers[i];
            Due.is(at, x.tick(1), 1);
            Due.is(at, x.count(counted[i]), before + 1);
            Due.is(at, x.end(1, WANTED), i == 0 ? 0 : 63);
            Due.is(at, x.end(1, NAKKED), counted[i] == CAME_ELSE ? 1 : 0);
            Due.frameIs(at, x, 1, 0, Due.wordFrame(
                    counted[i] == CAME_ELSE ? NAK_BYTE : ACK_BYTE, i == 0 ? 63 : 62));
        }
    }

    /** "WORDS tell the NUMBER ahead of WANTED": 63 ahead of 0, 0 ahead of 1. */
    private static void wordsTellTheNumberAhead() {
        Counted x = new Counted();
        x.set(A, 0);
        x.set(R, 60);
        Due.offerOnes(x, 0, 1, 2);
        x.tick(1);
        x.bend(0, 0, 3, 1);
        x.tick(1);
        Due.frameIs("0 is wanted", x, 1, 0, Due.wordFrame(NAK_BYTE, 63));
        Due.forge(x, 0, 0, Due.dataFrame(0, 1));
        x.tick(1);
        Due.frameIs("1 is wanted", x, 1, 0, Due.wordFrame(ACK_BYTE, 0));
        Counted y = new Counted();
        y.set(A, 0);
        Due.offer(y, 0, 1);
        y.tick(1);
        Due.forge(y, 0, 0, Due.dataFrame(63, 1));
        y.tick(1);
        Due.frameIs("0 is wanted, a repeat", y, 1, 0, Due.wordFrame(ACK_BYTE, 63));
    }

    /** "NEXT - 1 - n (by 64)" with NEXT 0, ACKED 63: 32 to 63 are 31 to 0, the others WRONG. */
    private static void nextIsReckonedBy64() {
        int[] numbers = {63, 62, 33, 32, 31, 30, 1, 0};
        for (int number : numbers) {
            Counted x = new Counted();
            x.set(A, 0);
            x.set(R, 60);
            Due.offer(x, 1, 1);
            x.tick(2);
            // END 0's ACK becomes a BAD frame: END 1 says NAK to an END that has sent nothing.
            x.bend(0, 0, 0, 1);
            x.tick(1);
            Due.frameIs("a NAK", x, 1, 0, Due.wordFrame(NAK_BYTE, 63));
            Due.forge(x, 1, 0, Due.wordFrame(NAK_BYTE, number));
            String at = "NEXT 0, NAK of " + number;
            Due.is(at, x.tick(1), 1);
            Due.is(at, x.count(CAME_WORD), 1);
            Due.is(at, x.count(CAME_WRONG), number < 32 ? 1 : 0);
            Due.ends(at, x, 0, 0, 0, 0, 63, 0, 0, 0, 1, 0, NONE, 0, 0, 1, 0);
        }
    }

    /** "told as a whole from 0 to 4294967295", the SHORT CHECK "so with 16 bits". */
    private static void checkIsAWhole() {
        Counted x = new Counted();
        Due.is("of nothing", x.check(0, 0), 0);
        Due.is("of nothing, short", x.check(0, 1), 0);
        x.draft(0, 2, 0xFFFFL);
        Due.is("two bytes 255, short", x.check(0, 1), 65535);
        x.draft(0, 2, 0xFFFFL);
        Due.is("four bytes 255", x.check(0, 0), 4294967295L);
        // These four have the check 0.
        x.draft(1, 4, 0x6DD90A9DL);
        Due.is("the check 0", x.check(1, 0), 0);
        Counted y = new Counted();
        for (int n = 1; n <= 24; n++) {
            y.draft(1, 1, n * 37);
            int[] bytes = new int[n];
            CRC32 crc = new CRC32();
            for (int i = 0; i < n; i++) {
                bytes[i] = (i + 1) * 37 & 255;
                crc.update(bytes[i]);
            }
            Due.is(n + " bytes", y.check(1, 0), crc.getValue());
            Due.is(n + " bytes, short", y.check(1, 1), Due.shortCheck(bytes));
        }
    }

    /** "the CHECK of the NUMBER (as two bytes: 0, it) and the PACKET": a draft of these has it. */
    private static void checkTakesTheNumberAsTwoBytes() {
        Counted x = new Counted();
        x.set(A, 0);
        Due.offerOnes(x, 0, 100, 101);
        x.tick(2);
        x.draft(1, 3, 0x650100L);
        for (int i = 0; i < 4; i++) {
            Due.is("byte " + i, x.wire(0, 0, BYTES + 4 + i), x.check(1, 0) >> 8 * i & 255);
        }
        // "the SHORT CHECK of these two bytes, the lowest first": an ACK's, of 0 and 0.
        x.draft(0, 2, 0);
        for (int i = 0; i < 2; i++) {
            Due.is("short, byte " + i, x.wire(1, 0, BYTES + 3 + i), x.check(0, 1) >> 8 * i & 255);
        }
    }

    /** The first frame of a wire is bent at each byte in turn: what it is read as then. */
    private static void bentAnywhereIs(String name, Counted x, int wire, int first, int others) {
        int length = x.wire(wire, 0, LENGTH);
        int good = x.wire(wire, 0, READ);
        for (int i = 0; i < length; i++) {
            x.bend(wire, 0, i, 128);
            Due.is(name + " bent at " + i, x.wire(wire, 0, READ), i == 0 ? first : others);
            x.bend(wire, 0, i, 128);
            Due.is(name + " unbent at " + i, x.wire(wire, 0, READ), good);
        }
    }

    /** "DATA, VOID, if it is just one .. else BAD". */
    private static void dataHasItsForm() {
        Counted x = new Counted();
        Due.offer(x, 0, 1);
        x.tick(1);
        Due.frameIs("DATA", x, 0, 0, Due.dataFrame(0, 1));
        Due.is("DATA", x.wire(0, 0, READ), DATA);
        bentAnywhereIs("DATA", x, 0, SPOILT, SPOILT);
    }

    /** "VOID: DATA with all bits of its CHECK turned, and 254 in the end." */
    private static void voidHasItsForm() {
        Counted x = new Counted();
        Due.offer(x, 0, 1);
        x.voids(0);
        x.tick(1);
        Due.frameIs("VOID", x, 0, 0, Due.voidFrame(0, 1));
        Due.is("VOID", x.wire(0, 0, READ), VOID);
        bentAnywhereIs("VOID", x, 0, SPOILT, SPOILT);
        x.bend(0, 0, 8, 3);
        Due.is("VOID with DATA's end", x.wire(0, 0, READ), SPOILT);
        for (int i = 4; i < 8; i++) {
            x.bend(0, 0, i, 255);
            Due.is("turned " + (i - 3), x.wire(0, 0, READ), i == 7 ? DATA : SPOILT);
        }
        x.bend(0, 0, 8, 3);
        Due.is("DATA with VOID's end", x.wire(0, 0, READ), SPOILT);
    }

    /** "a WORD, if it is just one, else NOTHING". */
    private static void wordsHaveTheirForm() {
        for (int kind = ACK_BYTE; kind <= NAK_BYTE; kind += NAK_BYTE) {
            Counted x = new Counted();
            x.set(A, 0);
            Due.offer(x, 0, 1);
            x.tick(2);
            Due.frameIs("ACK", x, 1, 0, Due.wordFrame(ACK_BYTE, 0));
            Due.forge(x, 1, 0, Due.wordFrame(kind, 5));
            Due.is("word", x.wire(1, 0, READ), kind == ACK_BYTE ? ACK : NAK);
            bentAnywhereIs("word", x, 1, SPOILT, NOTHING);
            for (int other : new int[] {1, 2, 8, 15, 17, 32, 255}) {
                Due.forge(x, 1, 0, Due.wordFrame(other, 5));
                Due.is("the kind " + other, x.wire(1, 0, READ), NOTHING);
            }
        }
    }

    /** "that begins with 92: a WORD, if it is just one, else NOTHING. Others: .. else BAD". */
    private static void framesThatBeginWith92AreWords() {
        int[] first = {91, 92, 93, 250, 251, 252, 0, 255};
        int[] asData = {SPOILT, NOTHING, SPOILT, SPOILT, DATA, SPOILT, SPOILT, SPOILT};
        int[] asWord = {SPOILT, ACK, SPOILT, SPOILT, SPOILT, SPOILT, SPOILT, SPOILT};
        for (int i = 0; i < first.length; i++) {
            Counted x = new Counted();
            x.set(A, 0);
            x.set(R, 60);
            Due.offerOnes(x, 0, 1, 2);
            x.tick(2);
            beginWith(x, 0, first[i]);
            beginWith(x, 1, first[i]);
            Due.is("DATA that begins with " + first[i], x.wire(0, 0, READ), asData[i]);
            Due.is("ACK that begins with " + first[i], x.wire(1, 0, READ), asWord[i]);
            x.tick(1);
            int bad = (asData[i] == SPOILT ? 1 : 0) + (asWord[i] == SPOILT ? 1 : 0);
            Due.is("BAD came", x.count(CAME_BAD), bad);
            Due.is("NOTHING came", x.count(CAME_NOTHING), asData[i] == NOTHING ? 1 : 0);
            Due.is("NAKKED by BAD", x.end(1, NAKKED), asData[i] == SPOILT ? 1 : 0);
            Due.is("NAKKED by BAD", x.end(0, NAKKED), asWord[i] == SPOILT ? 1 : 0);
        }
    }

    private static void beginWith(Counted x, int wire, int first) {
        int has = x.wire(wire, 0, BYTES);
        if (has != first) {
            Due.is("begins with", x.bend(wire, 0, 0, has ^ first), first);
        }
    }

    /** "its NUMBER is below 64", of DATA and VOID. */
    private static void dataNumbersAreBelow64() {
        for (int number : new int[] {0, 62, 63, 64, 65, 127, 128, 255}) {
            Counted x = new Counted();
            x.set(A, 0);
            Due.offer(x, 0, 9);
            x.tick(1);
            boolean right = number < 64;
            Due.forge(x, 0, 0, Due.voidFrame(number, 9));
            Due.is("VOID " + number, x.wire(0, 0, READ), right ? VOID : SPOILT);
            Due.forge(x, 0, 0, Due.dataFrame(number, 9));
            Due.is("DATA " + number, x.wire(0, 0, READ), right ? DATA : SPOILT);
            x.tick(1);
            Due.is("BAD " + number, x.count(CAME_BAD), right ? 0 : 1);
            Due.is("handed up " + number, x.count(CAME_UP), number == 0 ? 1 : 0);
            Due.is("repeat " + number, x.count(CAME_REPEAT), right && number > 31 ? 1 : 0);
            Due.is("NAK " + number, x.count(LAID_NAK), right ? 0 : 1);
        }
    }

    /** "a NUMBER" of WORDS, which are 0 to 63 as all NUMBERS. */
    private static void wordNumbersAreBelow64() {
        for (int number : new int[] {0, 62, 63, 64, 65, 127, 128, 255}) {
            Counted x = new Counted();
            x.set(A, 0);
            x.set(R, 60);
            Due.offer(x, 0, 9);
            x.tick(2);
            boolean right = number < 64;
            Due.forge(x, 1, 0, Due.wordFrame(NAK_BYTE, number));
            Due.is("NAK " + number, x.wire(1, 0, READ), right ? NAK : NOTHING);
            Due.forge(x, 1, 0, Due.wordFrame(ACK_BYTE, number));
            Due.is("ACK " + number, x.wire(1, 0, READ), right ? ACK : NOTHING);
            x.tick(1);
            Due.is("words " + number, x.count(CAME_WORD), right ? 1 : 0);
            Due.is("NOTHING " + number, x.count(CAME_NOTHING), right ? 0 : 1);
            Due.is("unacked " + number, x.end(0, UNACKED), number == 0 ? 0 : 1);
            Due.is("ACKED " + number, x.end(0, ACKED), number == 0 ? 0 : 63);
        }
    }

    /** "with a PACKET of 1 to 24 bytes": frames of 9 and of 32 bytes; a word has too few. */
    private static void readPacketsHave1To24Bytes() {
        Counted x = new Counted();
        int[] most = new int[24];
        Arrays.fill(most, 77);
        Due.offer(x, 0, 9);
        Due.offer(x, 0, most);
        x.set(A, 0);
        x.set(DELAY, 2);
        x.tick(2);
        Due.is("9 bytes", x.wire(0, 0, LENGTH), 9);
        Due.is("1 byte of a packet", x.wire(0, 0, READ), DATA);
        Due.is("32 bytes", x.wire(0, 1, LENGTH), 32);
        Due.is("24 bytes of a packet", x.wire(0, 1, READ), DATA);
        x.tick(1);
        Due.is("6 bytes", x.wire(1, 0, LENGTH), 6);
        x.bend(1, 0, 0, 92 ^ 251);
        Due.is("no packet", x.wire(1, 0, READ), SPOILT);
        // A DATA frame of no packet would have eight bytes; this one has the last byte of one.
        x.bend(1, 0, 5, 253 ^ 254);
        Due.is("no packet", x.wire(1, 0, READ), SPOILT);
    }

    /** "(A FRAME keeps its length on a WIRE.)" */
    private static void framesKeepTheirLength() {
        Counted x = new Counted();
        x.set(A, 0);
        x.set(DELAY, 6);
        x.set(R, 60);
        Due.offer(x, 0, 1, 2, 3);
        Due.offer(x, 0, 4);
        x.tick(7);
        for (int wire = 0; wire < 2; wire++) {
            int length = x.wire(wire, 0, LENGTH);
            Due.is("its length", length, wire == 0 ? 9 : 6);
            for (int i = 0; i < length; i++) {
                x.bend(wire, 0, i, 255);
                Due.is("its length, bent at " + i, x.wire(wire, 0, LENGTH), length);
            }
            Due.is("its last byte", x.wire(wire, 0, BYTES + length - 1), 253 ^ 255);
            Due.is("no byte behind it", x.wire(wire, 0, BYTES + length), NONE);
            Due.is("no byte to bend", x.bend(wire, 0, length, 1), BAD);
            x.twice(wire, 0);
            Due.is("its twin's length", x.wire(wire, 1, LENGTH), length);
        }
    }
}
