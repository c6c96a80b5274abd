/** Each promise of the document by itself: ordinary inputs, its edges, and wrong inputs. */
public final class PromiseTest {
    private static final int[] NO_STATIONS = {-1, 2, 3, 32, Integer.MIN_VALUE, Integer.MAX_VALUE};
    private static final int[] WINDOWS = {
        1, 2, 3, 7, 8, 29, 30, 31, 32, 33, 64, 0, -1, Integer.MIN_VALUE, Integer.MAX_VALUE};

    private static final int MOST_WRONG = 40;

    private static int wrong = 0;
    private static String about = "";

    private static void due(String call, long got, long want) {
        if (got != want) {
            wrong++;
            System.out.println(about + ": " + call + " answered " + got + ", due is " + want);
        }
        if (wrong >= MOST_WRONG) {
            System.out.println("the rest is left out");
            System.exit(1);
        }
    }

    private static void due(String call, boolean got, boolean want) {
        due(call, got ? 1 : 0, want ? 1 : 0);
    }

    private static void giveAll(LossyLink link, int station, int count, int endEvery) {
        for (int i = 0; i < count; i++) {
            link.give(station, (i * 7 + 3) & 255, endEvery != 0 && (i + 1) % endEvery == 0);
        }
    }

    /** All that can be asked about a station, against the bytes (256 more for an end) that wait. */
    private static void dueState(LossyLink link, int station, int done, int... cells) {
        int ends = 0;
        int sum = 0;
        for (int i = 0; i < cells.length; i++) {
            due("peek(" + station + ", " + i + ")", link.peek(station, i), cells[i] & 255);
            due("ends(" + station + ", " + i + ")", link.ends(station, i), cells[i] > 255);
            ends += cells[i] > 255 ? 1 : 0;
            sum += cells[i] & 255;
        }
        due("peek past the last", link.peek(station, cells.length), LossyLink.EMPTY);
        due("ends past the last", link.ends(station, cells.length), false);
        due("waiting(" + station + ")", link.waiting(station), cells.length);
        due("messages(" + station + ")", link.messages(station), ends);
        due("sum(" + station + ")", link.sum(station), sum);
        due("done(" + station + ")", link.done(station), done);
    }

    private static void newObject() {
        about = "promise 1";
        for (int window : WINDOWS) {
            LossyLink link = new LossyLink(window);
            dueState(link, 0, 0);
            dueState(link, 1, 0);
            due("take of a new object", link.take(0), LossyLink.EMPTY);
            giveAll(link, 0, 30, 4);
            giveAll(link, 1, 30, 0);
            due("waiting(1), window " + window, link.waiting(1), 30);
            due("waiting(0), window " + window, link.waiting(0), 30);
            for (int i = 0; i < 30; i++) {
                due("take(1), window " + window, link.take(1), i * 7 + 3);
                due("take(0), window " + window, link.take(0), i * 7 + 3);
            }
        }
    }

    private static void give() {
        about = "promise 2";
        LossyLink link = new LossyLink(4);
        due("give", link.give(0, 0, false), 1);
        due("give", link.give(0, 255, true), 2);
        due("give the other way", link.give(1, 17, true), 1);
        dueState(link, 1, 0, 0, 255 + 256);
        dueState(link, 0, 0, 17 + 256);

        int[] noBytes = {-1, 256, 257, 511, 512, -256, Integer.MIN_VALUE, Integer.MAX_VALUE};
        for (int b : noBytes) {
            due("give byte " + b, link.give(0, b, true), LossyLink.BAD_BYTE);
        }
        for (int station : NO_STATIONS) {
            due("give to " + station, link.give(station, 5, true), LossyLink.BAD_STATION);
            due("give a bad byte to " + station, link.give(station, 256, true),
                LossyLink.BAD_STATION);
        }
        dueState(link, 1, 0, 0, 255 + 256);
        dueState(link, 0, 0, 17 + 256);
    }

    private static void giveWhenFull() {
        about = "promise 2, full";
        LossyLink link = new LossyLink(2);
        for (int i = 1; i <= 30; i++) {
            due("give " + i, link.give(1, i, i == 30), i);
        }
        due("give when full", link.give(1, 99, true), LossyLink.FULL);
        due("a bad byte when full", link.give(1, 256, true), LossyLink.BAD_BYTE);
        due("a bad byte when full", link.give(1, -1, true), LossyLink.BAD_BYTE);
        due("a bad station when full", link.give(2, 1, true), LossyLink.BAD_STATION);
        due("the other way isn't full", link.give(0, 99, true), 1);
        due("waiting", link.waiting(0), 30);
        due("the last is the 30th", link.peek(0, 29), 30);
        due("sum", link.sum(0), 465);
        due("messages", link.messages(0), 1);
        due("take", link.take(0), 1);
        due("give after a take", link.give(1, 200, false), 30);
        due("full again", link.give(1, 201, false), LossyLink.FULL);
        due("the newest", link.peek(0, 29), 200);
    }

    private static void take() {
        about = "promise 3";
        LossyLink link = new LossyLink(3);
        due("take of none", link.take(0), LossyLink.EMPTY);
        link.give(0, 0, true);
        link.give(0, 255, true);
        link.give(0, 7, false);
        due("the giver has none", link.take(0), LossyLink.EMPTY);
        for (int station : NO_STATIONS) {
            due("take(" + station + ")", link.take(station), LossyLink.BAD_STATION);
        }
        dueState(link, 1, 0, 256, 255 + 256, 7);
        due("take", link.take(1), 0);
        dueState(link, 1, 1, 255 + 256, 7);
        due("take without its mark", link.take(1), 255);
        due("take", link.take(1), 7);
        due("take of none", link.take(1), LossyLink.EMPTY);
        dueState(link, 1, 3);
        dueState(link, 0, 0);
    }

    private static void takeMessage() {
        about = "promise 4";
        LossyLink link = new LossyLink(3);
        due("none waits", link.takeMessage(0), LossyLink.EMPTY);
        link.give(0, 1, false);
        link.give(0, 2, false);
        due("no end waits", link.takeMessage(1), LossyLink.EMPTY);
        dueState(link, 1, 0, 1, 2);
        link.give(0, 3, true);
        link.give(0, 4, true);
        link.give(0, 5, false);
        for (int station : NO_STATIONS) {
            due("bad station", link.takeMessage(station), LossyLink.BAD_STATION);
        }
        due("the giver has none", link.takeMessage(0), LossyLink.EMPTY);
        due("up to the first end", link.takeMessage(1), 3);
        dueState(link, 1, 3, 4 + 256, 5);
        due("one byte", link.takeMessage(1), 1);
        dueState(link, 1, 4, 5);
        due("no end is left", link.takeMessage(1), LossyLink.EMPTY);
        dueState(link, 1, 4, 5);

        LossyLink full = new LossyLink(5);
        giveAll(full, 1, 30, 30);
        due("the end is the 30th", full.takeMessage(0), 30);
        dueState(full, 0, 30);
    }

    private static void skip() {
        about = "promise 5";
        LossyLink link = new LossyLink(2);
        due("skip of none", link.skip(0), 0);
        link.give(0, 1, true);
        link.give(0, 2, false);
        link.give(1, 9, false);
        for (int station : NO_STATIONS) {
            due("bad station", link.skip(station), LossyLink.BAD_STATION);
        }
        due("skip", link.skip(1), 2);
        due("skip again", link.skip(1), 0);
        dueState(link, 1, 2);
        dueState(link, 0, 0, 9);
        due("give after a skip", link.give(0, 3, true), 1);
        dueState(link, 1, 2, 3 + 256);

        LossyLink full = new LossyLink(2);
        giveAll(full, 0, 30, 0);
        due("skip of 30", full.skip(1), 30);
        due("give after it", full.give(0, 8, false), 1);
        due("done", full.done(1), 30);
    }

    private static void reset() {
        about = "promise 6";
        LossyLink link = new LossyLink(3);
        link.reset();
        dueState(link, 0, 0);
        giveAll(link, 0, 30, 3);
        giveAll(link, 1, 12, 5);
        link.take(0);
        link.takeMessage(1);
        link.skip(1);
        giveAll(link, 0, 9, 2);
        // Frames of before that are still under way, damaged ones too, must not arrive later.
        link.carry(0, 3, 0);
        link.carry(0, 2, 4);
        link.carry(1, 3, 0);
        link.reset();
        dueState(link, 0, 0);
        dueState(link, 1, 0);
        due("take after reset", link.take(1), LossyLink.EMPTY);
        due("give after reset", link.give(0, 77, true), 1);
        due("give after reset", link.give(1, 78, false), 1);
        dueState(link, 1, 0, 77 + 256);
        dueState(link, 0, 0, 78);

        LossyLink underWay = new LossyLink(8);
        giveAll(underWay, 0, 8, 1);
        underWay.reset();
        for (int i = 0; i < 8; i++) {
            underWay.carry(0, 0, 0);
        }
        underWay.give(0, 200, false);
        dueState(underWay, 1, 0, 200);
    }

    private static void carry() {
        about = "promise 7";
        LossyLink link = new LossyLink(2);
        due("nothing is under way", link.carry(0, 0, 0), 0);
        due("nothing is under way", link.carry(1, 3, -5), 0);
        for (int station : NO_STATIONS) {
            for (int fault = -1; fault <= 4; fault++) {
                due("bad station", link.carry(station, fault, 0), LossyLink.BAD_STATION);
            }
        }
        int[] faults = {
            0, 1, 2, 3, 4, 5, -1, -2, -3, 258, Integer.MIN_VALUE, Integer.MAX_VALUE};
        for (int window : WINDOWS) {
            for (int fault : faults) {
                carryAlways(window, fault, 5);
            }
        }
        for (int bit = -70; bit <= 70; bit++) {
            carryAlways(1, 2, bit);
            carryAlways(6, 2, bit);
        }
        carryAlways(3, 2, Integer.MIN_VALUE);
        carryAlways(3, 2, Integer.MAX_VALUE);
    }

    private static void carryAlways(int window, int fault, int bit) {
        about = "promise 7, window " + window + ", fault " + fault + ", bit " + bit;
        LossyLink link = new LossyLink(window);
        int[] there = new int[10];
        int[] back = new int[10];
        for (int i = 0; i < 10; i++) {
            there[i] = 20 * i + (i % 3 == 2 ? 256 : 0);
            back[i] = 255 - i + (i % 4 == 1 ? 256 : 0);
            due("give", link.give(0, there[i] & 255, there[i] > 255), i + 1);
            due("carry", link.carry(0, fault, bit), 0);
            due("give", link.give(1, back[i] & 255, back[i] > 255), i + 1);
            due("carry", link.carry(1, fault, bit + i), 0);
            due("carry", link.carry(0, fault, bit - i), 0);
        }
        dueState(link, 1, 0, there);
        dueState(link, 0, 0, back);
    }

    private static void fire() {
        about = "promise 8";
        for (int station : NO_STATIONS) {
            due("bad station", new LossyLink(1).fire(station), LossyLink.BAD_STATION);
        }
        for (int window : WINDOWS) {
            about = "promise 8, window " + window;
            LossyLink link = new LossyLink(window);
            due("nothing to send", link.fire(0), 0);
            due("nothing to send", link.fire(1), 0);
            link.give(0, 1, false);
            link.give(0, 2, true);
            link.give(1, 3, false);
            // More than any line can hold, so that sending again must stop at the window.
            for (int i = 0; i < 100; i++) {
                due("fire", link.fire(0), 0);
                due("fire", link.fire(1), 0);
            }
            link.carry(0, 3, 0);
            link.carry(0, 1, 0);
            due("fire", link.fire(0), 0);
            dueState(link, 1, 0, 1, 2 + 256);
            dueState(link, 0, 0, 3);
            due("fire when all is over", link.fire(0), 0);
            due("take", link.take(1), 1);
            due("fire after a take", link.fire(0), 0);
            dueState(link, 1, 1, 2 + 256);
        }
    }

    private static void questionsOfNoStation() {
        LossyLink link = new LossyLink(1);
        giveAll(link, 0, 3, 1);
        giveAll(link, 1, 3, 1);
        for (int station : NO_STATIONS) {
            about = "promises 9 to 14, station " + station;
            due("waiting", link.waiting(station), LossyLink.BAD_STATION);
            due("messages", link.messages(station), LossyLink.BAD_STATION);
            due("peek", link.peek(station, 0), LossyLink.BAD_STATION);
            due("peek of none", link.peek(station, -1), LossyLink.BAD_STATION);
            due("peek of none", link.peek(station, 30), LossyLink.BAD_STATION);
            due("ends", link.ends(station, 0), false);
            due("done", link.done(station), LossyLink.BAD_STATION);
            due("sum", link.sum(station), LossyLink.BAD_STATION);
        }
    }

    /** Each question is the first one, so it must itself let the line finish. */
    private static void questionsAlone() {
        about = "promises 9 to 14, asked first";
        due("waiting", threeGiven().waiting(1), 3);
        due("messages", threeGiven().messages(1), 1);
        due("peek", threeGiven().peek(1, 2), 52);
        due("ends", threeGiven().ends(1, 2), true);
        due("done", threeGiven().done(1), 0);
        due("sum", threeGiven().sum(1), 153);
        due("take", threeGiven().take(1), 50);
        due("takeMessage", threeGiven().takeMessage(1), 3);
        due("skip", threeGiven().skip(1), 3);
    }

    private static LossyLink threeGiven() {
        LossyLink link = new LossyLink(1);
        link.give(0, 50, false);
        link.give(0, 51, false);
        link.give(0, 52, true);
        link.carry(0, 1, 0);
        return link;
    }

    private static void counts() {
        about = "promises 9, 10, 13 and 14";
        LossyLink link = new LossyLink(4);
        for (int i = 1; i <= 30; i++) {
            link.give(0, 255, true);
            due("waiting", link.waiting(1), i);
            due("messages", link.messages(1), i);
            due("sum", link.sum(1), 255 * i);
            due("done", link.done(1), 0);
        }
        link.give(0, 1, true);
        due("sum after a refused give", link.sum(1), 30 * 255);
        due("take", link.take(1), 255);
        due("takeMessage", link.takeMessage(1), 1);
        due("done", link.done(1), 2);
        due("sum", link.sum(1), 28 * 255);
        due("messages", link.messages(1), 28);
        due("skip", link.skip(1), 28);
        due("done", link.done(1), 30);
        due("refused take", link.take(1), LossyLink.EMPTY);
        due("refused takeMessage", link.takeMessage(1), LossyLink.EMPTY);
        due("done after refusals", link.done(1), 30);
        due("done of the giver", link.done(0), 0);
        link.reset();
        due("done after reset", link.done(1), 0);
    }

    private static void places() {
        about = "promises 11 and 12";
        LossyLink link = new LossyLink(4);
        int[] none = {-1, -32, 30, 31, 32, 64, Integer.MIN_VALUE, Integer.MAX_VALUE};
        giveAll(link, 0, 30, 1);
        for (int i : none) {
            due("peek(1, " + i + ")", link.peek(1, i), LossyLink.EMPTY);
            due("ends(1, " + i + ")", link.ends(1, i), false);
            due("peek(0, " + i + ")", link.peek(0, i), LossyLink.EMPTY);
        }
        due("peek(0, 0)", link.peek(0, 0), LossyLink.EMPTY);
        for (int i = 0; i < 30; i++) {
            due("peek", link.peek(1, i), i * 7 + 3);
            due("ends", link.ends(1, i), true);
        }
        link.take(1);
        link.take(1);
        due("peek after takes", link.peek(1, 0), 17);
        due("peek past the last", link.peek(1, 28), LossyLink.EMPTY);
        due("ends past the last", link.ends(1, 28), false);
        link.skip(1);
        due("peek after skip", link.peek(1, 0), LossyLink.EMPTY);
        due("ends after skip", link.ends(1, 0), false);
    }

    /** As many bytes through one object as its 512 calls allow, so that all numbers come round. */
    private static void longUse() {
        for (int window : WINDOWS) {
            about = "512 calls, window " + window;
            LossyLink link = new LossyLink(window);
            for (int i = 0; i < 256; i++) {
                due("give", link.give(i & 1, i, false), 1);
                due("take", link.take(1 - (i & 1)), i);
            }
            LossyLink batches = new LossyLink(window);
            for (int round = 0; round < 16; round++) {
                giveAll(batches, round & 1, 30, 7);
                due("skip", batches.skip(1 - (round & 1)), 30);
            }
            due("done", batches.done(0), 240);
            due("done", batches.done(1), 240);
        }
    }

    public static void main(String[] args) {
        newObject();
        give();
        giveWhenFull();
        take();
        takeMessage();
        skip();
        reset();
        carry();
        fire();
        questionsOfNoStation();
        questionsAlone();
        counts();
        places();
        longUse();
        System.out.println(wrong == 0 ? "all answers are as due" : wrong + " are not as due");
        if (wrong != 0) {
            System.exit(1);
        }
    }
}
