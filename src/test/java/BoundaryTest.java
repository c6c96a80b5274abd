import java.util.Arrays;

/**
 * A test of its own for each sentence of the document that names a boundary case. The methods
 * called by main list them: the heading, the sentence, the test. Whatever is wrong is printed under
 * both. A sentence that names several cases has a test for each.
 */
public final class BoundaryTest {
    private static final int BAD_STATION = LossyLink.BAD_STATION;
    private static final int FULL = LossyLink.FULL;
    private static final int EMPTY = LossyLink.EMPTY;
    private static final int BAD_BYTE = LossyLink.BAD_BYTE;

    private static final int MOST_CALLS = 512;
    private static final int MOST_WRONG_IN_A_TEST = 5;
    private static final int MARK = 256;
    private static final int LEAST = Integer.MIN_VALUE;
    private static final int GREATEST = Integer.MAX_VALUE;

    // Some of these become 0 or 1 if their upper bits are lost.
    private static final int[] NO_STATIONS = {
        -1, 2, -2, 3, 30, 32, 256, 257, 65536, 65537, LEAST, LEAST + 1, GREATEST, GREATEST - 1};
    private static final int[] NO_BYTES = {
        -1, 256, -2, 257, -128, -255, -256, 511, 512, 65536, LEAST, LEAST + 1, GREATEST};
    private static final int[] WINDOWS = {
        1, 2, 3, 8, 29, 30, 31, 32, 33, 64, 65, 1000, 0, -1, -32, LEAST, GREATEST};
    private static final int[] NO_FAULTS = {4, 5, -1, -2, -3, 256, 257, 258, 259, LEAST, GREATEST};
    private static final int[] BITS = {
        0, 1, 7, 8, 15, 16, 30, 31, 32, 33, 63, 64, 65, -1, -31, -32, -33, LEAST, GREATEST};

    private static int wrong = 0;
    private static int wrongInTest = 0;
    private static String heading = "";
    private static String testName = "";

    // How the tests are run.

    private static void about(String newHeading) {
        heading = newHeading;
    }

    private static void test(String sentence, Runnable body) {
        run(heading + ", \"" + sentence + "\"", body);
    }

    private static void test(String sentence, String oneCase, Runnable body) {
        run(heading + ", \"" + sentence + "\", " + oneCase, body);
    }

    private static void run(String name, Runnable body) {
        testName = name;
        wrongInTest = 0;
        try {
            body.run();
        } catch (EnoughWrong e) {
            System.out.println("  (the rest of this test is left out)");
        } catch (RuntimeException | StackOverflowError e) {
            tellWrong("a call threw " + e);
        }
        wrong += wrongInTest;
    }

    private static void tellWrong(String what) {
        if (wrongInTest == 0) {
            System.out.println(testName);
        }
        wrongInTest++;
        System.out.println("  " + what);
    }

    private static final class EnoughWrong extends RuntimeException {
        private static final long serialVersionUID = 1;
    }

    /** A link whose calls are counted; the last argument of a call is the answer that is due. */
    private static final class Link {
        private final LossyLink link;
        private final int window;
        private int calls = 0;

        Link(int window) {
            this.link = new LossyLink(window);
            this.window = window;
        }

        private void due(String call, int got, int want) {
            calls++;
            if (calls > MOST_CALLS) {
                throw new IllegalStateException("the test is wrong: call " + calls + " is free");
            }
            if (got != want) {
                tellWrong("window " + window + ", call " + calls + ": " + call + " answered " + got
                    + ", due is " + want);
                if (wrongInTest >= MOST_WRONG_IN_A_TEST) {
                    throw new EnoughWrong();
                }
            }
        }

        void give(int station, int b, boolean end, int want) {
            due("give(" + station + ", " + b + ", " + end + ")", link.give(station, b, end), want);
        }

        void take(int station, int want) {
            due("take(" + station + ")", link.take(station), want);
        }

        void takeMessage(int station, int want) {
            due("takeMessage(" + station + ")", link.takeMessage(station), want);
        }

        void skip(int station, int want) {
            due("skip(" + station + ")", link.skip(station), want);
        }

        void reset() {
            link.reset();
            due("reset()", 0, 0);
        }

        void carry(int station, int fault, int bit, int want) {
            due("carry(" + station + ", " + fault + ", " + bit + ")",
                link.carry(station, fault, bit), want);
        }

        void fire(int station, int want) {
            due("fire(" + station + ")", link.fire(station), want);
        }

        void waiting(int station, int want) {
            due("waiting(" + station + ")", link.waiting(station), want);
        }

        void messages(int station, int want) {
            due("messages(" + station + ")", link.messages(station), want);
        }

        void peek(int station, int i, int want) {
            due("peek(" + station + ", " + i + ")", link.peek(station, i), want);
        }

        void ends(int station, int i, boolean want) {
            due("ends(" + station + ", " + i + ")", link.ends(station, i) ? 1 : 0, want ? 1 : 0);
        }

        void done(int station, int want) {
            due("done(" + station + ")", link.done(station), want);
        }

        void sum(int station, int want) {
            due("sum(" + station + ")", link.sum(station), want);
        }

        /** All that can be asked about a station; a cell is a byte, and MARK more for an end. */
        void state(int station, int done, int... cells) {
            int marked = 0;
            int total = 0;
            for (int i = 0; i < cells.length; i++) {
                peek(station, i, cells[i] % MARK);
                ends(station, i, cells[i] >= MARK);
                marked += cells[i] / MARK;
                total += cells[i] % MARK;
            }
            peek(station, cells.length, EMPTY);
            ends(station, cells.length, false);
            waiting(station, cells.length);
            messages(station, marked);
            sum(station, total);
            done(station, done);
        }

        void giveCells(int station, int waitBefore, int... cells) {
            for (int i = 0; i < cells.length; i++) {
                give(station, cells[i] % MARK, cells[i] >= MARK, waitBefore + i + 1);
            }
        }

        /** Brings the rings inside to any place, with nothing left waiting. */
        void passThrough(int from, int count) {
            int left = count;
            while (left > 0) {
                int now = left < 30 ? left : 30;
                for (int i = 1; i <= now; i++) {
                    give(from, 170, true, i);
                }
                skip(1 - from, now);
                left -= now;
            }
        }
    }

    private static int[] cells(int count, int first) {
        int[] cells = new int[count];
        for (int i = 0; i < count; i++) {
            cells[i] = (first + 11 * i) % 256 + (i % 4 == 3 ? MARK : 0);
        }
        return cells;
    }

    private static int[] unmarked(int count, int b) {
        int[] cells = new int[count];
        Arrays.fill(cells, b);
        return cells;
    }

    /** A link for which so many bytes wait both ways: cells(count, 5) for 1, (count, 90) for 0. */
    private static Link withWaiting(int window, int count) {
        Link link = new Link(window);
        link.giveCells(0, 0, cells(count, 5));
        link.giveCells(1, 0, cells(count, 90));
        return link;
    }

    private static void stillWaiting(Link link, int count) {
        link.state(1, 0, cells(count, 5));
        link.state(0, 0, cells(count, 90));
    }

    // What it is.

    private static Link with511Calls() {
        Link link = new Link(4);
        for (int i = 0; i < 254; i++) {
            link.give(0, i, true, 1);
            link.take(1, i);
        }
        link.give(1, 9, true, 1);
        link.give(0, 7, false, 1);
        link.give(0, 8, true, 2);
        return link;
    }

    private static void lastCallOfEachKind() {
        with511Calls().give(0, 1, false, 3);
        with511Calls().give(2, 1, false, BAD_STATION);
        with511Calls().give(1, 256, false, BAD_BYTE);
        with511Calls().take(1, 7);
        with511Calls().takeMessage(1, 2);
        with511Calls().takeMessage(0, 1);
        with511Calls().skip(1, 2);
        with511Calls().carry(0, 2, 5, 0);
        with511Calls().fire(0, 0);
        with511Calls().waiting(1, 2);
        with511Calls().messages(1, 1);
        with511Calls().peek(1, 1, 8);
        with511Calls().ends(1, 1, true);
        with511Calls().done(1, 254);
        with511Calls().sum(1, 15);
    }

    private static void lastCallFillsUp() {
        for (int from = 0; from < 2; from++) {
            Link link = new Link(30);
            link.passThrough(from, 464);
            link.giveCells(from, 0, cells(30, 1));
            link.done(1 - from, 464);
            link.give(from, 1, false, FULL);
        }
    }

    /** Free answers, but LANGUAGE.md's rule 7 holds in any state: each call must end. */
    private static void laterCallsEnd() {
        int[] arguments = {0, 1, -1, 2, 29, 30, 31, 255, 256, LEAST, GREATEST};
        for (int window : new int[] {LEAST, 1, 30, GREATEST}) {
            LossyLink link = new LossyLink(window);
            for (int i = 0; i < 20000; i++) {
                int x = i % 3 == 0 ? arguments[i / 3 % arguments.length] : i & 1;
                int y = arguments[i / 5 % arguments.length];
                link.give(x, i & 255, i % 7 == 0);
                link.give(x, y, false);
                link.carry(x, i % 5, i);
                link.carry(x, y, y);
                link.fire(x);
                if (i % 40 == 0) {
                    link.take(x);
                    link.takeMessage(x);
                    link.peek(x, y);
                    link.ends(x, y);
                    link.waiting(x);
                    link.messages(x);
                    link.done(x);
                    link.sum(x);
                }
                if (i % 400 == 0) {
                    link.skip(x);
                }
                if (i == 9999) {
                    link.reset();
                }
            }
        }
    }

    private static void whatItIs() {
        about("What it is, for promises 1 to 14");
        String calls = "An object is used for at most 512 calls after it has been made;"
            + " what later calls answer is free.";
        test(calls, "the 512th call, of each kind", BoundaryTest::lastCallOfEachKind);
        test(calls, "the 512th call, refused", BoundaryTest::lastCallFillsUp);
    }

    /** The document promises nothing of later calls; the rule does, for any state. */
    private static void languageRule() {
        about("LANGUAGE.md, rule 7");
        test("No call may ever throw or fail to end, for any arguments in any state",
            "calls after the 512th", BoundaryTest::laterCallsEnd);
    }

    // Terms.

    private static void twoStations() {
        for (int station = 0; station < 2; station++) {
            int other = 1 - station;
            Link link = new Link(3);
            link.give(station, 40, false, 1);
            link.give(station, 41, true, 2);
            link.give(other, 50, true, 1);
            link.carry(station, 0, 0, 0);
            link.fire(station, 0);
            link.state(other, 0, 40, 41 + MARK);
            link.state(station, 0, 50 + MARK);
            link.take(other, 40);
            link.state(station, 0, 50 + MARK);
            link.takeMessage(station, 1);
            link.state(other, 1, 41 + MARK);
            link.skip(other, 1);
            link.state(station, 1);
            link.state(other, 2);
        }
    }

    private static void orderAlwaysHolds() {
        for (int waiting = 1; waiting <= 30; waiting++) {
            for (int from = 0; from < 2; from++) {
                Link link = new Link(waiting);
                for (int i = 0; i < 256; i++) {
                    link.give(from, i, false, i < waiting ? i + 1 : waiting);
                    if (i >= waiting - 1) {
                        link.take(1 - from, i - waiting + 1);
                    }
                }
            }
        }
    }

    private static void markLeavesTheByte() {
        int[] bytes = {0, 1, 127, 128, 254, 255};
        for (int b : bytes) {
            Link link = new Link(2);
            link.giveCells(0, 0, b, b + MARK, b, b + MARK);
            link.state(1, 0, b, b + MARK, b, b + MARK);
            link.take(1, b);
            link.take(1, b);
            link.state(1, 2, b, b + MARK);
            link.takeMessage(1, 2);
        }
    }

    private static void atMost30Wait() {
        for (int window : WINDOWS) {
            Link link = withWaiting(window, 30);
            for (int station = 0; station < 2; station++) {
                link.give(station, 1, true, FULL);
                link.waiting(1 - station, 30);
                link.take(1 - station, station == 0 ? 5 : 90);
                link.waiting(1 - station, 29);
                link.give(station, 2, false, 30);
                link.give(station, 3, true, FULL);
                link.waiting(1 - station, 30);
                link.peek(1 - station, 29, 2);
                link.peek(1 - station, 30, EMPTY);
            }
        }
    }

    private static void waitsWhileUnderWay() {
        Link link = new Link(1);
        link.give(0, 60, true, 1);
        link.waiting(1, 1);
        link.waiting(0, 0);
        link.take(1, 60);
        link.waiting(1, 0);
        Link lost = new Link(1);
        for (int i = 1; i <= 30; i++) {
            lost.give(0, i, false, i);
            lost.carry(0, 1, 0, 0);
        }
        lost.give(0, 31, false, FULL);
        lost.carry(0, 1, 0, 0);
        lost.give(0, 31, false, FULL);
        lost.waiting(1, 30);
    }

    private static void lineMakesMistakesAlways() {
        for (int window : WINDOWS) {
            for (int fault = 1; fault <= 3; fault++) {
                Link link = new Link(window);
                int[] there = cells(30, 1);
                int[] back = cells(30, 100);
                for (int i = 0; i < 30; i++) {
                    link.give(0, there[i] % MARK, there[i] >= MARK, i + 1);
                    link.give(1, back[i] % MARK, back[i] >= MARK, i + 1);
                    link.carry(0, fault, i, 0);
                    link.carry(1, fault, -i, 0);
                    link.fire(i & 1, 0);
                    link.carry(i & 1, 0, 0, 0);
                    link.carry(1 - (i & 1), fault, 7 * i, 0);
                }
                link.state(1, 0, there);
                link.state(0, 0, back);
            }
        }
    }

    private static Link inDisorder(int window) {
        Link link = new Link(window);
        link.giveCells(0, 0, 10, 20 + MARK, 30, 40 + MARK, 50);
        link.carry(0, 1, 0, 0);
        link.carry(0, 3, 0, 0);
        link.carry(0, 2, 9, 0);
        link.fire(0, 0);
        link.carry(1, 1, 0, 0);
        link.give(1, 99, true, 1);
        link.carry(1, 2, 40, 0);
        return link;
    }

    private static void questionsSeeNoLine() {
        for (int window : WINDOWS) {
            inDisorder(window).waiting(1, 5);
            inDisorder(window).messages(1, 2);
            inDisorder(window).peek(1, 0, 10);
            inDisorder(window).peek(1, 4, 50);
            inDisorder(window).peek(1, 5, EMPTY);
            inDisorder(window).ends(1, 3, true);
            inDisorder(window).ends(1, 4, false);
            inDisorder(window).ends(1, 5, false);
            inDisorder(window).done(1, 0);
            inDisorder(window).sum(1, 150);
            inDisorder(window).waiting(0, 1);
            inDisorder(window).sum(0, 99);
        }
    }

    private static void takersSeeNoLine() {
        for (int window : WINDOWS) {
            inDisorder(window).take(1, 10);
            inDisorder(window).take(0, 99);
            inDisorder(window).takeMessage(1, 2);
            inDisorder(window).takeMessage(0, 1);
            inDisorder(window).skip(1, 5);
            inDisorder(window).give(0, 60, false, 6);
            Link link = inDisorder(window);
            link.reset();
            link.state(0, 0);
            link.state(1, 0);
        }
    }

    private static void orderOfTests() {
        for (int from = 0; from < 2; from++) {
            for (int count = 29; count <= 30; count++) {
                Link link = new Link(2);
                link.giveCells(from, 0, cells(count, 9));
                link.give(2, 256, true, BAD_STATION);
                link.give(-1, -1, true, BAD_STATION);
                link.give(2, 255, true, BAD_STATION);
                link.give(from, 256, true, BAD_BYTE);
                link.give(from, -1, true, BAD_BYTE);
                link.give(from, 255, true, count == 30 ? FULL : 30);
            }
        }
    }

    private static void refusedCallsChangeNothing() {
        for (int count : new int[] {0, 1, 29, 30}) {
            for (int station : NO_STATIONS) {
                Link link = withWaiting(4, count);
                link.give(station, 1, true, BAD_STATION);
                link.give(station, -1, true, BAD_STATION);
                link.take(station, BAD_STATION);
                link.takeMessage(station, BAD_STATION);
                link.skip(station, BAD_STATION);
                link.carry(station, 1, 0, BAD_STATION);
                link.fire(station, BAD_STATION);
                stillWaiting(link, count);
                link.take(1, count == 0 ? EMPTY : 5);
            }
            for (int b : NO_BYTES) {
                Link link = withWaiting(4, count);
                link.give(0, b, true, BAD_BYTE);
                link.give(1, b, true, BAD_BYTE);
                stillWaiting(link, count);
                link.take(0, count == 0 ? EMPTY : 90);
            }
        }
    }

    private static void refusedForTheStateChangeNothing() {
        Link full = withWaiting(4, 30);
        full.give(0, 200, true, FULL);
        full.give(1, 201, true, FULL);
        stillWaiting(full, 30);
        full.give(0, 202, false, FULL);
        stillWaiting(full, 30);

        Link empty = new Link(4);
        for (int station = 0; station < 2; station++) {
            empty.take(station, EMPTY);
            empty.takeMessage(station, EMPTY);
        }
        empty.state(0, 0);
        empty.state(1, 0);
        empty.give(0, 3, false, 1);
        empty.state(1, 0, 3);

        for (int count : new int[] {1, 29, 30}) {
            Link noEnd = new Link(4);
            noEnd.giveCells(1, 0, unmarked(count, 77));
            noEnd.takeMessage(0, EMPTY);
            noEnd.takeMessage(0, EMPTY);
            noEnd.state(0, 0, unmarked(count, 77));
            noEnd.take(0, 77);
            noEnd.takeMessage(0, EMPTY);
            noEnd.state(0, 1, unmarked(count - 1, 77));
        }
    }

    private static void noStationIsRefused() {
        for (int count : new int[] {0, 30}) {
            for (int station : NO_STATIONS) {
                Link link = withWaiting(2, count);
                link.give(station, 0, false, BAD_STATION);
                link.give(station, 255, true, BAD_STATION);
                link.take(station, BAD_STATION);
                link.takeMessage(station, BAD_STATION);
                link.skip(station, BAD_STATION);
            }
        }
    }

    private static void lineCalls(Link link) {
        for (int station = 0; station < 2; station++) {
            for (int fault = -1; fault <= 4; fault++) {
                link.carry(station, fault, 13 * fault, 0);
                link.carry(1 - station, fault, 31, 0);
            }
            link.fire(station, 0);
            link.fire(station, 0);
            link.carry(station, 1, 0, 0);
        }
        link.carry(2, 1, 0, BAD_STATION);
        link.fire(-1, BAD_STATION);
    }

    private static void lineChangesNoAnswer() {
        for (int window : WINDOWS) {
            for (int count : new int[] {0, 1, 29, 30}) {
                Link link = withWaiting(window, count);
                lineCalls(link);
                stillWaiting(link, count);
                lineCalls(link);
                link.give(0, 3, true, count == 30 ? FULL : count + 1);
                link.take(0, count == 0 ? EMPTY : 90);
                lineCalls(link);
                link.done(0, count == 0 ? 0 : 1);
                link.skip(1, count == 30 ? 30 : count + 1);
                lineCalls(link);
                link.waiting(1, 0);
                link.take(1, EMPTY);
            }
        }
    }

    private static void questionsChangeNoAnswer() {
        for (int count : new int[] {0, 1, 29, 30}) {
            Link link = withWaiting(5, count);
            stillWaiting(link, count);
            for (int i : new int[] {LEAST, -1, 0, count, GREATEST}) {
                int first = i == 0 && count != 0 ? 5 : EMPTY;
                link.peek(1, i, first);
                link.ends(1, i, false);
                link.peek(2, i, BAD_STATION);
                link.ends(2, i, false);
            }
            for (int station : new int[] {-1, 2}) {
                link.waiting(station, BAD_STATION);
                link.messages(station, BAD_STATION);
                link.done(station, BAD_STATION);
                link.sum(station, BAD_STATION);
            }
            stillWaiting(link, count);
            link.give(0, 1, false, count == 30 ? FULL : count + 1);
            link.take(1, count == 0 ? 1 : 5);
            link.skip(0, count);
        }
    }

    private static void noStationBeforeAnythingElse() {
        for (int count : new int[] {0, 30}) {
            for (int station : NO_STATIONS) {
                Link link = withWaiting(2, count);
                link.waiting(station, BAD_STATION);
                link.messages(station, BAD_STATION);
                for (int i : new int[] {0, 29, -1, 30, LEAST, GREATEST}) {
                    link.peek(station, i, BAD_STATION);
                }
                link.done(station, BAD_STATION);
                link.sum(station, BAD_STATION);
            }
        }
    }

    private static void terms() {
        about("Terms, for promises 2 to 14");
        test("There are two STATIONS (0 and 1).", BoundaryTest::twoStations);
        about("Terms, for promises 2 and 3");
        test("Each is GIVEN bytes for the other one, and the other one TAKES them, in the order in"
            + " which they were given.", BoundaryTest::orderAlwaysHolds);
        about("Terms, for promises 2, 3, 4, 11 and 12");
        test("A byte may be marked as the END of a message.", BoundaryTest::markLeavesTheByte);
        about("Terms, for promises 2, 3 and 9");
        String waits = "A byte WAITS for a station from when it was given to the other one until"
            + " the station takes it; at most 30 wait for a station.";
        test(waits, "from when it was given", BoundaryTest::waitsWhileUnderWay);
        test(waits, "at most 30", BoundaryTest::atMost30Wait);
        about("Terms, for promises 7 to 14");
        test("Underneath, frames travel over the line both ways, and the line may lose, damage or"
            + " double them; the stations number them, ask again and send again.",
            BoundaryTest::lineMakesMistakesAlways);
        String unseen = "NOTHING OF THAT CAN BE SEEN: a question lets the line work without"
            + " mistakes until all is over before it is answered.";
        test(unseen, "the questions", BoundaryTest::questionsSeeNoLine);
        test(unseen, "the other calls", BoundaryTest::takersSeeNoLine);
    }

    private static void aheadOfTheCalls() {
        about("Ahead of give, take, takeMessage, skip, reset (promises 2 to 6)");
        String refused = "Tests are made in the order in which they are named; a refused call"
            + " changes nothing.";
        test(refused, "the order", BoundaryTest::orderOfTests);
        test(refused, "refused for an argument", BoundaryTest::refusedCallsChangeNothing);
        test(refused, "refused as full or empty", BoundaryTest::refusedForTheStateChangeNothing);
        test("A station not 0 or 1 is BAD_STATION.", BoundaryTest::noStationIsRefused);
        about("Ahead of carry, fire (promises 7 and 8)");
        test("These change nothing that any call answers.", BoundaryTest::lineChangesNoAnswer);
        about("Ahead of waiting, messages, peek, ends, done, sum (promises 9 to 14)");
        test("The calls below change nothing that any call answers.",
            BoundaryTest::questionsChangeNoAnswer);
        test("BAD_STATION first.", BoundaryTest::noStationBeforeAnythingElse);
    }

    // Promise 1.

    private static void newObjectIsEmpty() {
        for (int window : WINDOWS) {
            for (int station = 0; station < 2; station++) {
                Link link = new Link(window);
                link.state(station, 0);
                link.state(1 - station, 0);
                new Link(window).take(station, EMPTY);
                new Link(window).takeMessage(station, EMPTY);
                new Link(window).skip(station, 0);
                new Link(window).give(station, 1, false, 1);
            }
        }
    }

    private static void windowChangesNoAnswer() {
        for (int window : WINDOWS) {
            Link link = withWaiting(window, 30);
            link.give(0, 1, false, FULL);
            stillWaiting(link, 30);
            link.takeMessage(1, 4);
            link.takeMessage(0, 4);
            link.carry(0, 0, 0, 0);
            link.fire(1, 0);
            link.giveCells(0, 26, 1, 2 + MARK, 3, 4);
            link.give(0, 5, false, FULL);
            link.peek(1, 29, 4);
            link.ends(1, 27, true);
            link.skip(1, 30);
            link.done(1, 34);
            link.skip(0, 26);
            link.done(0, 30);
        }
    }

    private static void promise1() {
        about("Promise 1: A new object");
        test("Nothing waits.", BoundaryTest::newObjectIsEmpty);
        test("'window' says how many frames a station may have under way; it changes nothing that"
            + " any call answers.", BoundaryTest::windowChangesNoAnswer);
    }

    // Promise 2.

    private static void giveEveryByteMarkedOrNot() {
        for (int cell = 0; cell < 2 * MARK; cell++) {
            for (int from = 0; from < 2; from++) {
                Link link = new Link(3);
                link.give(from, cell % MARK, cell >= MARK, 1);
                link.state(1 - from, 0, cell);
                link.state(from, 0);
            }
        }
    }

    private static void giveToNoStation() {
        for (int station : NO_STATIONS) {
            Link link = new Link(3);
            link.give(station, 0, false, BAD_STATION);
            link.give(station, 255, true, BAD_STATION);
            link.give(station, 256, true, BAD_STATION);
            link.state(0, 0);
            link.state(1, 0);
        }
    }

    private static void giveNoByte() {
        for (int from = 0; from < 2; from++) {
            Link link = new Link(3);
            for (int b : NO_BYTES) {
                link.give(from, b, false, BAD_BYTE);
                link.give(from, b, true, BAD_BYTE);
            }
            link.state(1 - from, 0);
            link.give(from, 0, false, 1);
            link.give(from, 255, false, 2);
            link.give(from, -1, false, BAD_BYTE);
            link.give(from, 256, false, BAD_BYTE);
            link.state(1 - from, 0, 0, 255);
        }
    }

    private static void giveAt29And30() {
        for (int from = 0; from < 2; from++) {
            Link link = new Link(3);
            link.giveCells(from, 0, cells(29, 1));
            link.give(from, 200, false, 30);
            link.give(from, 201, false, FULL);
            link.give(from, 201, true, FULL);
            link.give(1 - from, 202, false, 1);
            link.take(1 - from, 1);
            link.give(from, 203, false, 30);
            link.give(from, 204, false, FULL);
            link.take(from, 202);
            link.give(from, 204, false, FULL);
            link.skip(1 - from, 30);
            link.give(from, 205, true, 1);
        }
    }

    private static void fullAtEveryPlace() {
        for (int passed = 0; passed <= 70; passed++) {
            Link link = new Link(3);
            link.passThrough(passed & 1, passed);
            link.giveCells(passed & 1, 0, cells(30, passed));
            link.give(passed & 1, 1, true, FULL);
            link.state(1 - (passed & 1), passed, cells(30, passed));
        }
    }

    private static void fullAgainAfterEveryNumberOfTakes() {
        for (int takes = 1; takes <= 30; takes++) {
            Link link = new Link(3);
            link.giveCells(0, 0, cells(30, 7));
            for (int i = 0; i < takes; i++) {
                link.take(1, cells(30, 7)[i] % MARK);
            }
            link.giveCells(0, 30 - takes, unmarked(takes, 33));
            link.give(0, 34, true, FULL);
            link.peek(1, 30 - takes, 33);
            link.peek(1, 29, 33);
        }
    }

    private static void giveAnswersHowManyWait() {
        for (int from = 0; from < 2; from++) {
            Link link = new Link(1);
            link.giveCells(from, 0, cells(30, 2));
            link.skip(1 - from, 30);
            link.give(from, 1, false, 1);
            link.take(1 - from, 1);
            link.give(from, 2, true, 1);
            link.give(from, 3, false, 2);
            link.give(1 - from, 4, false, 1);
            link.takeMessage(1 - from, 1);
            link.give(from, 5, false, 2);
            link.reset();
            link.give(from, 6, false, 1);
        }
    }

    private static void promise2() {
        about("Promise 2: give");
        test("A station is given a byte for the other one, marked as the end of a message or not.",
            BoundaryTest::giveEveryByteMarkedOrNot);
        String refused = "BAD_STATION; byte not in 0 to 255: BAD_BYTE; 30 bytes wait for the other"
            + " station: FULL.";
        test(refused, "no such station", BoundaryTest::giveToNoStation);
        test(refused, "too small or too large a byte", BoundaryTest::giveNoByte);
        test(refused, "29 and 30 wait", BoundaryTest::giveAt29And30);
        test(refused, "30 wait, after a wrap-around", BoundaryTest::fullAtEveryPlace);
        test(refused, "30 wait again", BoundaryTest::fullAgainAfterEveryNumberOfTakes);
        test("Else answers how many wait for it.", BoundaryTest::giveAnswersHowManyWait);
    }

    // Promise 3.

    private static void takeTheLongestWaiting() {
        for (int passed = 0; passed <= 70; passed++) {
            int from = passed & 1;
            Link link = new Link(4);
            link.passThrough(from, passed);
            link.giveCells(from, 0, cells(30, passed));
            link.giveCells(1 - from, 0, 1, 2);
            for (int cell : cells(30, passed)) {
                link.take(1 - from, cell % MARK);
            }
            link.take(1 - from, EMPTY);
            link.done(1 - from, passed + 30);
            link.take(from, 1);
        }
    }

    private static void takeForNoStation() {
        for (int station : NO_STATIONS) {
            new Link(3).take(station, BAD_STATION);
            withWaiting(3, 30).take(station, BAD_STATION);
        }
    }

    private static void takeOfNone() {
        for (int station = 0; station < 2; station++) {
            Link link = new Link(3);
            link.take(station, EMPTY);
            link.give(station, 1, true, 1);
            link.take(station, EMPTY);
            link.give(1 - station, 2, true, 1);
            link.take(station, 2);
            link.take(station, EMPTY);
            link.give(1 - station, 3, true, 1);
            link.takeMessage(station, 1);
            link.take(station, EMPTY);
            link.give(1 - station, 4, true, 1);
            link.skip(station, 1);
            link.take(station, EMPTY);
            link.give(1 - station, 5, true, 1);
            link.reset();
            link.take(station, EMPTY);
            link.state(station, 0);
        }
    }

    private static void takeAnswersEveryByte() {
        for (int b = 0; b <= 255; b++) {
            Link link = new Link(3);
            link.give(b & 1, b, false, 1);
            link.give(b & 1, b, true, 2);
            link.take(1 - (b & 1), b);
            link.take(1 - (b & 1), b);
            link.take(1 - (b & 1), EMPTY);
        }
    }

    private static void promise3() {
        about("Promise 3: take");
        test("A station takes the byte that has waited longest.",
            BoundaryTest::takeTheLongestWaiting);
        String refused = "BAD_STATION; none waits: EMPTY.";
        test(refused, "no such station", BoundaryTest::takeForNoStation);
        test(refused, "none waits", BoundaryTest::takeOfNone);
        test("Else answers it.", BoundaryTest::takeAnswersEveryByte);
    }

    // Promise 4.

    private static int[] withEndAt(int end) {
        int[] cells = unmarked(30, 60);
        cells[end] += MARK;
        return cells;
    }

    private static void messageToItsEndAndNoFurther() {
        for (int end = 0; end < 30; end++) {
            Link link = new Link(4);
            link.passThrough(0, end * 3);
            link.giveCells(0, 0, withEndAt(end));
            link.takeMessage(1, end + 1);
            link.state(1, end * 3 + end + 1, unmarked(29 - end, 60));
        }
    }

    private static void onlyTheFirstOfManyMessages() {
        Link link = new Link(4);
        link.giveCells(1, 0, 1 + MARK, 2 + MARK, 3, 4 + MARK, 5, 6, 7 + MARK);
        link.takeMessage(0, 1);
        link.state(0, 1, 2 + MARK, 3, 4 + MARK, 5, 6, 7 + MARK);
        link.takeMessage(0, 1);
        link.state(0, 2, 3, 4 + MARK, 5, 6, 7 + MARK);
        link.takeMessage(0, 2);
        link.state(0, 4, 5, 6, 7 + MARK);
        link.take(0, 5);
        link.takeMessage(0, 2);
        link.state(0, 7);
    }

    private static void messageForNoStation() {
        for (int station : NO_STATIONS) {
            new Link(3).takeMessage(station, BAD_STATION);
            withWaiting(3, 30).takeMessage(station, BAD_STATION);
        }
    }

    private static void noMarkWaits() {
        for (int station = 0; station < 2; station++) {
            Link link = new Link(3);
            link.takeMessage(station, EMPTY);
            link.give(station, 1, true, 1);
            link.takeMessage(station, EMPTY);
            for (int i = 1; i <= 30; i++) {
                link.give(1 - station, 255, false, i);
                link.takeMessage(station, EMPTY);
            }
            link.waiting(station, 30);
            link.take(station, 255);
            link.give(1 - station, 2, true, 30);
            link.takeMessage(station, 30);
            link.takeMessage(station, EMPTY);
            link.done(station, 31);
        }
    }

    private static void markHasLeft() {
        Link link = new Link(3);
        link.giveCells(0, 0, 1 + MARK, 2);
        link.take(1, 1);
        link.takeMessage(1, EMPTY);
        link.giveCells(0, 1, 3 + MARK, 4);
        link.takeMessage(1, 2);
        link.takeMessage(1, EMPTY);
        link.giveCells(0, 1, 5 + MARK);
        link.skip(1, 2);
        link.takeMessage(1, EMPTY);
        link.giveCells(0, 0, 6);
        link.takeMessage(1, EMPTY);
        link.giveCells(0, 1, 7 + MARK);
        link.reset();
        link.takeMessage(1, EMPTY);
        link.giveCells(0, 0, 8);
        link.takeMessage(1, EMPTY);
        link.state(1, 0, 8);
    }

    private static void messageAnswersHowMany() {
        for (int end = 0; end < 30; end++) {
            for (int from = 0; from < 2; from++) {
                Link link = new Link(4);
                link.giveCells(from, 0, withEndAt(end));
                link.takeMessage(1 - from, end + 1);
                link.waiting(1 - from, 29 - end);
                link.done(1 - from, end + 1);
            }
        }
    }

    private static void promise4() {
        about("Promise 4: takeMessage");
        String what = "A station takes bytes up to the first one that is marked as an end, that one"
            + " too.";
        test(what, "the first to the 30th is the end", BoundaryTest::messageToItsEndAndNoFurther);
        test(what, "several ends", BoundaryTest::onlyTheFirstOfManyMessages);
        String refused = "BAD_STATION; no byte that is marked waits: EMPTY.";
        test(refused, "no such station", BoundaryTest::messageForNoStation);
        test(refused, "0 to 30 wait, none marked", BoundaryTest::noMarkWaits);
        test(refused, "the marked one has left", BoundaryTest::markHasLeft);
        test("Else answers how many it took.", BoundaryTest::messageAnswersHowMany);
    }

    // Promise 5.

    private static void skipDropsAllForTheStationAlone() {
        for (int count : new int[] {0, 1, 29, 30}) {
            Link link = withWaiting(6, count);
            link.skip(1, count);
            link.state(1, count);
            link.state(0, 0, cells(count, 90));
            link.take(1, EMPTY);
            link.give(0, 9, true, 1);
            link.state(1, count, 9 + MARK);
            link.skip(0, count);
            link.state(0, count);
            link.state(1, count, 9 + MARK);
        }
    }

    private static void skipForNoStation() {
        for (int station : NO_STATIONS) {
            new Link(3).skip(station, BAD_STATION);
            withWaiting(3, 30).skip(station, BAD_STATION);
        }
    }

    private static void skipAnswersHowMany() {
        for (int station = 0; station < 2; station++) {
            Link link = new Link(6);
            link.skip(station, 0);
            link.give(station, 1, false, 1);
            link.skip(station, 0);
            link.give(1 - station, 2, false, 1);
            link.skip(station, 1);
            link.skip(station, 0);
            for (int round = 0; round < 8; round++) {
                link.giveCells(1 - station, 0, cells(30, round));
                link.skip(station, 30);
                link.skip(station, 0);
            }
            link.done(station, 241);
        }
    }

    private static void promise5() {
        about("Promise 5: skip");
        test("A station drops all bytes that wait for it.",
            BoundaryTest::skipDropsAllForTheStationAlone);
        test("BAD_STATION.", BoundaryTest::skipForNoStation);
        test("Else answers how many.", BoundaryTest::skipAnswersHowMany);
    }

    // Promise 6.

    private static void asNew(Link link) {
        link.state(0, 0);
        link.state(1, 0);
        link.take(0, EMPTY);
        link.takeMessage(1, EMPTY);
        link.skip(0, 0);
        link.giveCells(0, 0, cells(30, 14));
        link.give(0, 1, true, FULL);
        link.state(1, 0, cells(30, 14));
        link.give(1, 44, true, 1);
        link.state(0, 0, 44 + MARK);
    }

    private static void resetOfANewObject() {
        Link link = new Link(3);
        link.reset();
        link.reset();
        asNew(link);
    }

    private static void resetWhenFull() {
        Link link = withWaiting(3, 30);
        link.reset();
        asNew(link);
    }

    private static void resetWithFramesUnderWay() {
        for (int window : WINDOWS) {
            for (int fault = 0; fault <= 3; fault++) {
                Link link = withWaiting(window, 20);
                for (int i = 0; i < 10; i++) {
                    link.carry(0, fault, i, 0);
                    link.carry(1, fault, i, 0);
                }
                link.fire(0, 0);
                link.reset();
                for (int i = 0; i < 40; i++) {
                    link.carry(0, 0, 0, 0);
                    link.carry(1, 3, 0, 0);
                }
                link.fire(0, 0);
                link.fire(1, 0);
                asNew(link);
            }
        }
    }

    private static void resetAtEveryPlace() {
        for (int passed = 0; passed <= 70; passed++) {
            Link link = new Link(3);
            link.passThrough(0, passed);
            link.passThrough(1, 70 - passed);
            link.reset();
            asNew(link);
        }
    }

    private static void promise6() {
        about("Promise 6: reset");
        String anew = "Nothing waits for either station; the link begins anew.";
        test(anew, "a new object", BoundaryTest::resetOfANewObject);
        test(anew, "full both ways", BoundaryTest::resetWhenFull);
        test(anew, "frames under way", BoundaryTest::resetWithFramesUnderWay);
        test(anew, "after a wrap-around", BoundaryTest::resetAtEveryPlace);
    }

    // Promises 7 and 8.

    /** Every frame meets the fault: twelve bytes each way, with a carry after each. */
    private static void carryAlways(int window, int fault, int bit) {
        Link link = new Link(window);
        int[] there = cells(12, 3);
        int[] back = cells(12, 130);
        for (int i = 0; i < 12; i++) {
            link.give(0, there[i] % MARK, there[i] >= MARK, i + 1);
            link.carry(0, fault, bit, 0);
            link.give(1, back[i] % MARK, back[i] >= MARK, i + 1);
            link.carry(1, fault, bit, 0);
            link.carry(0, fault, bit, 0);
            link.carry(1, fault, bit, 0);
        }
        link.state(1, 0, there);
        link.state(0, 0, back);
    }

    /** One frame alone meets the fault: damage that is done twice could undo itself. */
    private static void carryOnce(int window, int fault, int bit) {
        int[] there = {0, 255 + MARK, 170};
        int[] back = {85 + MARK, 1};
        for (int before = 0; before <= 3; before++) {
            for (int from = 0; from < 2; from++) {
                Link link = new Link(window);
                link.giveCells(0, 0, there);
                link.giveCells(1, 0, back);
                for (int i = 0; i < before; i++) {
                    link.carry(from, 0, 0, 0);
                }
                link.carry(from, fault, bit, 0);
                link.state(1, 0, there);
                link.state(0, 0, back);
            }
        }
    }

    private static void everyFault() {
        for (int window : WINDOWS) {
            for (int fault = 0; fault <= 3; fault++) {
                carryAlways(window, fault, 0);
                carryOnce(window, fault, 0);
            }
        }
    }

    private static void everyBit() {
        for (int window : new int[] {1, 6, 32}) {
            for (int bit : BITS) {
                carryAlways(window, 2, bit);
                carryOnce(window, 2, bit);
            }
            for (int bit = -130; bit <= 130; bit++) {
                carryAlways(window, 2, bit);
                carryOnce(window, 2, bit);
            }
        }
    }

    private static void otherFaults() {
        for (int window : new int[] {1, 6, 32}) {
            for (int fault : NO_FAULTS) {
                for (int bit : BITS) {
                    carryAlways(window, fault, bit);
                    carryOnce(window, fault, bit);
                }
            }
        }
    }

    private static void carryForNoStation() {
        for (int station : NO_STATIONS) {
            for (int count : new int[] {0, 30}) {
                Link link = withWaiting(3, count);
                for (int fault = -1; fault <= 4; fault++) {
                    link.carry(station, fault, LEAST, BAD_STATION);
                    link.carry(station, fault, GREATEST, BAD_STATION);
                }
                link.carry(station, LEAST, 0, BAD_STATION);
                link.carry(station, GREATEST, 0, BAD_STATION);
            }
        }
    }

    private static void carryAnswers0() {
        for (int window : WINDOWS) {
            for (int count : new int[] {0, 1, 30}) {
                for (int fault = -1; fault <= 4; fault++) {
                    Link link = withWaiting(window, count);
                    for (int bit : BITS) {
                        link.carry(0, fault, bit, 0);
                        link.carry(1, fault, bit, 0);
                    }
                    link.waiting(0, count);
                    link.carry(0, fault, 0, 0);
                    link.carry(1, fault, 0, 0);
                }
            }
        }
    }

    private static void promise7() {
        about("Promise 7: carry");
        String faults = "Carries the oldest frame under way from a station: fault 0 it arrives; 1"
            + " it is lost; 2 bit 'bit' of it (any int; taken modulo its length) is turned round"
            + " and it arrives; 3 it arrives and is under way once more.";
        test(faults, "each fault", BoundaryTest::everyFault);
        test(faults, "any int as bit", BoundaryTest::everyBit);
        test("Any other fault counts as 0.", BoundaryTest::otherFaults);
        test("BAD_STATION.", BoundaryTest::carryForNoStation);
        test("Else answers 0.", BoundaryTest::carryAnswers0);
    }

    private static void fireSendsNothingTwiceSeen() {
        for (int window : WINDOWS) {
            for (int count : new int[] {0, 1, 29, 30}) {
                Link link = withWaiting(window, count);
                for (int i = 0; i < 40; i++) {
                    link.fire(0, 0);
                    link.fire(1, 0);
                    link.carry(i & 1, i % 3 == 0 ? 1 : 0, 0, 0);
                }
                stillWaiting(link, count);
                link.skip(1, count);
                link.fire(0, 0);
                link.fire(1, 0);
                link.waiting(1, 0);
                link.take(1, EMPTY);
                link.waiting(0, count);
            }
        }
    }

    private static void fireForNoStation() {
        for (int station : NO_STATIONS) {
            new Link(3).fire(station, BAD_STATION);
            withWaiting(3, 30).fire(station, BAD_STATION);
        }
    }

    private static void fireAnswers0() {
        for (int window : WINDOWS) {
            for (int station = 0; station < 2; station++) {
                Link link = new Link(window);
                link.fire(station, 0);
                link.give(station, 1, false, 1);
                link.fire(station, 0);
                link.carry(station, 1, 0, 0);
                link.fire(station, 0);
                link.take(1 - station, 1);
                link.fire(station, 0);
                link.giveCells(station, 0, cells(30, 1));
                link.giveCells(1 - station, 0, cells(30, 2));
                link.fire(station, 0);
                link.fire(1 - station, 0);
                link.reset();
                link.fire(station, 0);
            }
        }
    }

    private static void promise8() {
        about("Promise 8: fire");
        test("A station has waited long enough and sends again.",
            BoundaryTest::fireSendsNothingTwiceSeen);
        test("BAD_STATION.", BoundaryTest::fireForNoStation);
        test("Else answers 0.", BoundaryTest::fireAnswers0);
    }

    // Promises 9 to 14.

    private static void waitingFrom0To30() {
        for (int station = 0; station < 2; station++) {
            Link link = new Link(3);
            link.waiting(station, 0);
            for (int i = 1; i <= 30; i++) {
                link.give(1 - station, 0, i % 2 == 0, i);
                link.waiting(station, i);
                link.waiting(1 - station, 0);
            }
            link.give(1 - station, 0, false, FULL);
            link.waiting(station, 30);
            for (int i = 29; i >= 0; i--) {
                link.take(station, 0);
                link.waiting(station, i);
            }
            link.take(station, EMPTY);
            link.waiting(station, 0);
        }
    }

    private static void messagesFrom0To30() {
        for (int station = 0; station < 2; station++) {
            Link link = new Link(3);
            link.messages(station, 0);
            link.give(1 - station, 255, false, 1);
            link.messages(station, 0);
            link.take(station, 255);
            for (int i = 1; i <= 30; i++) {
                link.give(1 - station, 0, true, i);
                link.messages(station, i);
                link.messages(1 - station, 0);
            }
            link.give(1 - station, 0, true, FULL);
            link.messages(station, 30);
            link.take(station, 0);
            link.messages(station, 29);
            link.takeMessage(station, 1);
            link.messages(station, 28);
            link.give(1 - station, 0, false, 29);
            link.messages(station, 28);
            link.skip(station, 29);
            link.messages(station, 0);
            link.giveCells(1 - station, 0, unmarked(30, 255));
            link.messages(station, 0);
        }
    }

    private static void peekOnlyWhatWaits() {
        for (int passed = 0; passed <= 70; passed += 7) {
            for (int count : new int[] {0, 1, 29, 30}) {
                Link link = new Link(3);
                link.passThrough(0, passed);
                link.giveCells(0, 0, cells(count, 40));
                for (int i = 0; i < count; i++) {
                    link.peek(1, i, cells(count, 40)[i] % MARK);
                }
                for (int i : placesWhereNoneWaits(count)) {
                    link.peek(1, i, EMPTY);
                }
                link.peek(0, 0, EMPTY);
                link.skip(1, count);
                link.peek(1, 0, EMPTY);
                link.peek(1, -1, EMPTY);
            }
        }
    }

    private static int[] placesWhereNoneWaits(int count) {
        return new int[] {
            -1, -2, -30, -32, -64, -256, LEAST, LEAST + 1, LEAST + 32, count, count + 1, 30, 31, 32,
            33, 62, 64, 256, 65536, GREATEST, GREATEST - 1, GREATEST - 69, GREATEST - 99};
    }

    private static void peekEveryByte() {
        for (int b = 0; b <= 255; b++) {
            Link link = new Link(1);
            link.give(b & 1, b, b % 3 == 0, 1);
            link.peek(1 - (b & 1), 0, b);
            link.peek(1 - (b & 1), 1, EMPTY);
        }
    }

    private static void endsOnlyWhatWaits() {
        int[] marked = unmarked(30, 170 + MARK);
        for (int passed = 0; passed <= 70; passed += 7) {
            for (int count : new int[] {0, 1, 29, 30}) {
                Link link = new Link(3);
                link.passThrough(0, passed);
                link.giveCells(0, 0, Arrays.copyOf(marked, count));
                for (int i = 0; i < count; i++) {
                    link.ends(1, i, true);
                }
                for (int i : placesWhereNoneWaits(count)) {
                    link.ends(1, i, false);
                }
                link.ends(0, 0, false);
                link.skip(1, count);
                link.ends(1, 0, false);
                link.ends(1, -1, false);
                link.give(0, 255, false, 1);
                link.ends(1, 0, false);
            }
        }
    }

    private static void endsForNoStation() {
        for (int station : NO_STATIONS) {
            Link link = new Link(3);
            link.giveCells(0, 0, unmarked(30, 255 + MARK));
            link.giveCells(1, 0, unmarked(30, 255 + MARK));
            for (int i : new int[] {0, 1, 29, 30, -1, LEAST, GREATEST}) {
                link.ends(station, i, false);
            }
        }
    }

    private static void doneCountsTakenAndDropped() {
        for (int station = 0; station < 2; station++) {
            Link link = new Link(3);
            link.done(station, 0);
            link.take(station, EMPTY);
            link.takeMessage(station, EMPTY);
            link.skip(station, 0);
            link.done(station, 0);
            link.giveCells(1 - station, 0, 1, 2, 3 + MARK, 4, 5);
            link.done(station, 0);
            link.take(station, 1);
            link.done(station, 1);
            link.takeMessage(station, 2);
            link.done(station, 3);
            link.takeMessage(station, EMPTY);
            link.take(9, BAD_STATION);
            link.done(station, 3);
            link.skip(station, 2);
            link.done(station, 5);
            link.take(station, EMPTY);
            link.done(station, 5);
            link.done(1 - station, 0);
        }
    }

    private static void doneOfAsManyAsCanBe() {
        for (int station = 0; station < 2; station++) {
            Link link = new Link(3);
            link.passThrough(1 - station, 480);
            link.done(station, 480);
            link.done(1 - station, 0);
        }
    }

    private static void doneSinceTheLastReset() {
        for (int station = 0; station < 2; station++) {
            Link link = new Link(3);
            link.passThrough(1 - station, 31);
            link.passThrough(station, 2);
            link.reset();
            link.done(station, 0);
            link.done(1 - station, 0);
            link.passThrough(1 - station, 1);
            link.done(station, 1);
            link.reset();
            link.reset();
            link.done(station, 0);
            link.take(station, EMPTY);
            link.done(station, 0);
        }
    }

    private static void sumFrom0To7650() {
        for (int station = 0; station < 2; station++) {
            Link link = new Link(3);
            link.sum(station, 0);
            link.give(1 - station, 0, true, 1);
            link.sum(station, 0);
            link.take(station, 0);
            for (int i = 1; i <= 30; i++) {
                link.give(1 - station, 255, i % 2 == 0, i);
                link.sum(station, 255 * i);
                link.sum(1 - station, 0);
            }
            link.give(1 - station, 255, false, FULL);
            link.sum(station, 7650);
            link.take(station, 255);
            link.sum(station, 7395);
            link.takeMessage(station, 1);
            link.sum(station, 7140);
            link.skip(station, 28);
            link.sum(station, 0);
        }
    }

    private static void promises9To14() {
        about("Promise 9: waiting");
        test("How many bytes wait for the station.", BoundaryTest::waitingFrom0To30);
        about("Promise 10: messages");
        test("How many of these are marked as ends.", BoundaryTest::messagesFrom0To30);
        about("Promise 11: peek");
        String peeked = "The i-th byte that waits, from 0 for the one that has waited longest;"
            + " EMPTY if there is none.";
        test(peeked, "too small or too large a place", BoundaryTest::peekOnlyWhatWaits);
        test(peeked, "0 to 255", BoundaryTest::peekEveryByte);
        about("Promise 12: ends");
        String marked = "Whether the i-th byte that waits is marked as an end; false if there is"
            + " none.";
        test(marked, "too small or too large a place", BoundaryTest::endsOnlyWhatWaits);
        test(marked, "no such station", BoundaryTest::endsForNoStation);
        about("Promise 13: done");
        String counted = "How many bytes the station has taken or dropped since the start or the"
            + " last reset.";
        test(counted, "refused calls between", BoundaryTest::doneCountsTakenAndDropped);
        test(counted, "as many as can be", BoundaryTest::doneOfAsManyAsCanBe);
        test(counted, "after a reset", BoundaryTest::doneSinceTheLastReset);
        about("Promise 14: sum");
        test("The sum of all bytes that wait for the station.", BoundaryTest::sumFrom0To7650);
    }

    public static void main(String[] args) {
        whatItIs();
        languageRule();
        terms();
        aheadOfTheCalls();
        promise1();
        promise2();
        promise3();
        promise4();
        promise5();
        promise6();
        promise7();
        promise8();
        promises9To14();
        System.out.println(wrong == 0 ? "all boundaries hold" : wrong + " answers are not as due");
        if (wrong != 0) {
            System.exit(1);
        }
    }
}
