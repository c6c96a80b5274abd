/**
 * A link between two stations over a line that makes mistakes.
 *
 * A station keeps every byte that it was given until the other one has confirmed it, and sends it
 * in a numbered frame with a check. The other station accepts frames in the order of their numbers
 * alone, and asks again when one is damaged or missing. Whoever asks about bytes that wait first
 * lets the line work without mistakes until every byte has arrived and is confirmed.
 */
public final class LossyLink {
    public static final int BAD_STATION = -1;
    public static final int FULL = -2;
    public static final int EMPTY = -3;
    public static final int BAD_BYTE = -4;

    private static final int MOST_WAITING = 30;
    private static final int GREATEST_BYTE = 255;

    // A power of two above MOST_WAITING: a mask then finds a place in a ring for any number.
    private static final int RING = 32;
    private static final int RING_MASK = RING - 1;
    private static final int TWO_RINGS = 2 * RING;

    private static final int LOST = 1;
    private static final int DAMAGED = 2;
    private static final int DOUBLED = 3;
    private static final int NO_FAULT = 0;

    // A frame, from its lowest bit: a byte (8), its end mark, whether it holds a byte at all,
    // whether it asks again, its number (6), the number expected next (6), the check (8).
    private static final int END_MARK = 1 << 8;
    private static final int DATA_MARK = 1 << 9;
    private static final int ASK_MARK = 1 << 10;
    private static final int NUMBER_SHIFT = 11;
    private static final int EXPECTED_SHIFT = 17;
    private static final int CONTENT_BITS = 23;
    private static final int CHECK_BITS = 8;
    private static final int FRAME_BITS = CONTENT_BITS + CHECK_BITS;
    private static final int CONTENT_MASK = (1 << CONTENT_BITS) - 1;
    private static final int CELL_MASK = END_MARK | GREATEST_BYTE;

    // Bytes are taken only after the line has been emptied, so at most MOST_WAITING are given
    // each way while frames are under way: 64 numbers tell an old frame from a new one.
    private static final int NUMBERS = 64;
    private static final int NUMBER_MASK = NUMBERS - 1;

    // x^8 + x^2 + x + 1: its remainder changes with any single bit that is turned round.
    private static final int CHECK_POLYNOMIAL = 0x107;

    // Far above the turns that full lines and full stations need (some hundreds).
    private static final int MOST_TURNS = 1000000;

    private final int window;

    // What a station sends: bytes given, of these confirmed, and the next one to go on the line.
    private final int[] outbox = new int[TWO_RINGS];
    private final int[] given = new int[2];
    private final int[] confirmed = new int[2];
    private final int[] toSend = new int[2];

    // What a station receives: bytes that arrived, and of these taken or dropped.
    private final int[] inbox = new int[TWO_RINGS];
    private final int[] received = new int[2];
    private final int[] taken = new int[2];
    private final boolean[] owesReply = new boolean[2];
    private final boolean[] asksAgain = new boolean[2];

    // Frames under way from a station, the oldest first.
    private final int[] line = new int[TWO_RINGS];
    private final int[] oldestFrame = new int[2];
    private final int[] underWay = new int[2];

    public LossyLink(int window) {
        // A station that may send nothing would never be done, and the line has RING places.
        if (window < 1) {
            this.window = 1;
        } else if (window > RING) {
            this.window = RING;
        } else {
            this.window = window;
        }
    }

    public int give(int station, int b, boolean end) {
        if (isNoStation(station)) {
            return BAD_STATION;
        }
        if (b < 0 || b > GREATEST_BYTE) {
            return BAD_BYTE;
        }
        // Counted from both ends, so that giving leaves the line as it is.
        int before = given[station] - taken[1 - station];
        if (before >= MOST_WAITING) {
            return FULL;
        }
        outbox[place(station, given[station])] = end ? (b | END_MARK) : b;
        given[station]++;
        sendWhatFits(station);
        return before + 1;
    }

    public int take(int station) {
        if (isNoStation(station)) {
            return BAD_STATION;
        }
        letLineFinish();
        if (isNotWaiting(station, 0)) {
            return EMPTY;
        }
        int taking = cellAt(station, 0) & GREATEST_BYTE;
        taken[station]++;
        return taking;
    }

    public int takeMessage(int station) {
        if (isNoStation(station)) {
            return BAD_STATION;
        }
        letLineFinish();
        int length = firstMessageLength(station);
        if (length == 0) {
            return EMPTY;
        }
        taken[station] += length;
        return length;
    }

    public int skip(int station) {
        if (isNoStation(station)) {
            return BAD_STATION;
        }
        letLineFinish();
        int dropped = countWaiting(station);
        taken[station] += dropped;
        return dropped;
    }

    public void reset() {
        for (int station = 0; station < 2; station++) {
            given[station] = 0;
            confirmed[station] = 0;
            toSend[station] = 0;
            received[station] = 0;
            taken[station] = 0;
            owesReply[station] = false;
            asksAgain[station] = false;
            oldestFrame[station] = 0;
            underWay[station] = 0;
        }
    }

    public int carry(int station, int fault, int bit) {
        if (isNoStation(station)) {
            return BAD_STATION;
        }
        moveOldestFrame(station, fault, bit);
        return 0;
    }

    public int fire(int station) {
        if (isNoStation(station)) {
            return BAD_STATION;
        }
        sendAgain(station);
        return 0;
    }

    public int waiting(int station) {
        if (isNoStation(station)) {
            return BAD_STATION;
        }
        letLineFinish();
        return countWaiting(station);
    }

    public int messages(int station) {
        if (isNoStation(station)) {
            return BAD_STATION;
        }
        letLineFinish();
        int count = countWaiting(station);
        int marked = 0;
        for (int i = 0; i < count; i++) {
            if ((cellAt(station, i) & END_MARK) != 0) {
                marked++;
            }
        }
        return marked;
    }

    public int peek(int station, int i) {
        if (isNoStation(station)) {
            return BAD_STATION;
        }
        letLineFinish();
        if (isNotWaiting(station, i)) {
            return EMPTY;
        }
        return cellAt(station, i) & GREATEST_BYTE;
    }

    public boolean ends(int station, int i) {
        // A boolean can't answer BAD_STATION, and no byte waits for a station that isn't there.
        if (isNoStation(station)) {
            return false;
        }
        letLineFinish();
        if (isNotWaiting(station, i)) {
            return false;
        }
        return (cellAt(station, i) & END_MARK) != 0;
    }

    public int done(int station) {
        if (isNoStation(station)) {
            return BAD_STATION;
        }
        letLineFinish();
        return taken[station];
    }

    public int sum(int station) {
        if (isNoStation(station)) {
            return BAD_STATION;
        }
        letLineFinish();
        int count = countWaiting(station);
        int total = 0;
        for (int i = 0; i < count; i++) {
            total += cellAt(station, i) & GREATEST_BYTE;
        }
        return total;
    }

    private static boolean isNoStation(int station) {
        return station != 0 && station != 1;
    }

    private static int place(int station, int number) {
        return station * RING + (number & RING_MASK);
    }

    // The four below count what has arrived: they are right once the line has finished.

    private int countWaiting(int station) {
        return received[station] - taken[station];
    }

    private boolean isNotWaiting(int station, int i) {
        return i < 0 || i >= countWaiting(station);
    }

    private int cellAt(int station, int i) {
        return inbox[place(station, taken[station] + i)];
    }

    private int firstMessageLength(int station) {
        int count = countWaiting(station);
        for (int i = 0; i < count; i++) {
            if ((cellAt(station, i) & END_MARK) != 0) {
                return i + 1;
            }
        }
        return 0;
    }

    private void letLineFinish() {
        for (int turn = 0; turn < MOST_TURNS; turn++) {
            if (underWay[0] == 0 && underWay[1] == 0) {
                if (isAllConfirmed()) {
                    break;
                }
                // Whatever is not confirmed now was lost, or its confirmation was.
                sendAgain(0);
                sendAgain(1);
            }
            moveOldestFrame(0, NO_FAULT, 0);
            moveOldestFrame(1, NO_FAULT, 0);
        }
    }

    private boolean isAllConfirmed() {
        return confirmed[0] == given[0] && confirmed[1] == given[1];
    }

    private void sendAgain(int station) {
        toSend[station] = confirmed[station];
        sendWhatFits(station);
    }

    private void moveOldestFrame(int station, int fault, int bit) {
        if (underWay[station] == 0) {
            return;
        }
        int frame = line[place(station, oldestFrame[station])];
        oldestFrame[station]++;
        underWay[station]--;
        if (fault == DOUBLED) {
            putOnLine(station, frame);
        }
        if (fault == DAMAGED) {
            frame ^= 1 << placeInFrame(bit);
        }
        if (fault != LOST) {
            arrive(1 - station, frame);
        }
        sendWhatFits(station);
        sendWhatFits(1 - station);
    }

    // Java's remainder is negative for a negative bit.
    private static int placeInFrame(int bit) {
        int rest = bit % FRAME_BITS;
        return rest < 0 ? rest + FRAME_BITS : rest;
    }

    private void putOnLine(int station, int frame) {
        line[place(station, oldestFrame[station] + underWay[station])] = frame;
        underWay[station]++;
    }

    private void sendWhatFits(int station) {
        for (int i = 0; i < window; i++) {
            boolean hasData = toSend[station] != given[station];
            boolean hasReply = owesReply[station] || asksAgain[station];
            if (underWay[station] >= window || (!hasData && !hasReply)) {
                break;
            }
            int frame = nextFrame(station, hasData);
            putOnLine(station, frame);
        }
    }

    // Every frame tells which number its sender expects, so any frame pays a reply that is owed.
    private int nextFrame(int station, boolean hasData) {
        int content = (received[station] & NUMBER_MASK) << EXPECTED_SHIFT;
        if (asksAgain[station]) {
            content |= ASK_MARK;
        }
        if (hasData) {
            int number = toSend[station];
            content |= DATA_MARK | outbox[place(station, number)];
            content |= (number & NUMBER_MASK) << NUMBER_SHIFT;
            toSend[station]++;
        }
        owesReply[station] = false;
        asksAgain[station] = false;
        return content | (checkOf(content) << CONTENT_BITS);
    }

    private static int checkOf(int content) {
        int rest = content << CHECK_BITS;
        for (int bit = FRAME_BITS - 1; bit >= CHECK_BITS; bit--) {
            if (((rest >> bit) & 1) != 0) {
                rest ^= CHECK_POLYNOMIAL << (bit - CHECK_BITS);
            }
        }
        return rest;
    }

    private void arrive(int station, int frame) {
        int content = frame & CONTENT_MASK;
        if (checkOf(content) != frame >> CONTENT_BITS) {
            asksAgain[station] = true;
            return;
        }
        readConfirmation(station, content);
        if ((content & DATA_MARK) != 0) {
            readData(station, content);
        }
    }

    private void readConfirmation(int station, int content) {
        int expected = (content >> EXPECTED_SHIFT) & NUMBER_MASK;
        int news = (expected - confirmed[station]) & NUMBER_MASK;
        // A late frame that confirms less than is known wraps round to more than was given.
        if (news <= given[station] - confirmed[station]) {
            confirmed[station] += news;
        }
        boolean isBehind = toSend[station] - confirmed[station] < 0;
        if (isBehind || (content & ASK_MARK) != 0) {
            toSend[station] = confirmed[station];
        }
    }

    private void readData(int station, int content) {
        int number = (content >> NUMBER_SHIFT) & NUMBER_MASK;
        int ahead = (number - received[station]) & NUMBER_MASK;
        if (ahead == 0) {
            inbox[place(station, received[station])] = content & CELL_MASK;
            received[station]++;
        } else if (ahead < NUMBERS / 2) {
            asksAgain[station] = true;
        }
        // Also for a frame that came before: its sender may have missed the reply.
        owesReply[station] = true;
    }
}
