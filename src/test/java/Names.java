/** The document's names for answers and for what its calls are asked. */
interface Names {
    int BAD = -1, NO = -2, FULL = -3, NONE = -4;
    int LOWEST = Integer.MIN_VALUE, HIGHEST = Integer.MAX_VALUE;

    // set() of these.
    int DELAY = 0, R = 1, A = 2;

    // wire() of a frame is asked for these, and told one of the kinds.
    int LENGTH = 0, IN_TICKS = 1, READ = 2, BYTES = 3;
    int DATA = 0, VOID = 1, ACK = 2, NAK = 3, SPOILT = 4, NOTHING = 5;

    // The second byte of words, by which frames are forged.
    int ACK_BYTE = 0, NAK_BYTE = 16;

    // end() is asked for these.
    int WAITING = 0, UNACKED = 1, NEXT = 2, ACKED = 3, TIMER = 4, TRIES = 5, AGAIN = 6, WANTED = 7,
            NAKKED = 8, ACK_DUE = 9, NAK_DUE = 10, OFFERED = 11, HANDED_UP = 12, DRAFT = 13;

    // count() is asked for these.
    int TICKS = 0, TRAINING = 1, TRAININGS = 2, SENDINGS_AGAIN = 3, LAID_FIRST = 4, LAID_AGAIN = 5,
            LAID_VOID = 6, LAID_ACK = 7, LAID_NAK = 8, CAME_UP = 9, CAME_REPEAT = 10,
            CAME_ELSE = 11, CAME_VOID = 12, CAME_WORD = 13, CAME_WRONG = 14, CAME_BAD = 15,
            CAME_NOTHING = 16, QUIET = 17;
}
