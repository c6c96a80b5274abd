import java.lang.reflect.Field;

/**
 * What carry, fire and the window do underneath. No call answers it, so this test alone looks into
 * the object's private fields: it changes with them. The document leaves free how the state is
 * held, so a class without these fields isn't wrong: there is nothing to look at then.
 */
public final class LineTest {
    private static final int FRAME_BITS = 31;

    private static final int MOST_TOLD = 40;

    private static int wrong = 0;
    private static long sequence;

    private static void due(String what, int got, int want) {
        if (got != want) {
            wrong++;
            if (wrong <= MOST_TOLD) {
                System.out.println(what + " is " + got + ", due is " + want);
            }
        }
    }

    private static boolean hasField(String name) {
        for (Field field : LossyLink.class.getDeclaredFields()) {
            if (field.getName().equals(name) && field.getType() == int[].class) {
                return true;
            }
        }
        return false;
    }

    private static int inside(LossyLink link, String field, int station) {
        try {
            Field found = LossyLink.class.getDeclaredField(field);
            found.setAccessible(true);
            return ((int[]) found.get(link))[station];
        } catch (ReflectiveOperationException e) {
            throw new IllegalStateException(e);
        }
    }

    private static void dueLine(String when, LossyLink link, int from, int underWay, int arrived) {
        due(when + ": under way", inside(link, "underWay", from), underWay);
        due(when + ": arrived", inside(link, "received", 1 - from), arrived);
    }

    private static LossyLink twoFramesFrom(int station) {
        LossyLink link = new LossyLink(8);
        link.give(station, 10, false);
        link.give(station, 20, true);
        return link;
    }

    private static void faults(int from) {
        int[] harmless = {0, 4, -1, -2, -3, Integer.MAX_VALUE, Integer.MIN_VALUE};
        for (int fault : harmless) {
            LossyLink link = twoFramesFrom(from);
            link.carry(from, fault, 3);
            dueLine("fault " + fault, link, from, 1, 1);
        }
        LossyLink lost = twoFramesFrom(from);
        lost.carry(from, 1, 3);
        dueLine("lost", lost, from, 1, 0);
        due("no reply to a lost frame", inside(lost, "underWay", 1 - from), 0);

        LossyLink doubled = twoFramesFrom(from);
        doubled.carry(from, 3, 3);
        dueLine("doubled", doubled, from, 2, 1);
        doubled.carry(from, 0, 3);
        dueLine("the frame behind it", doubled, from, 1, 2);
        doubled.carry(from, 0, 3);
        dueLine("the double", doubled, from, 0, 2);

        LossyLink other = twoFramesFrom(from);
        other.carry(1 - from, 0, 0);
        dueLine("the other way carried", other, from, 2, 0);
    }

    private static void damage(int from) {
        int[] bits = new int[FRAME_BITS + 6];
        for (int bit = 0; bit < FRAME_BITS; bit++) {
            bits[bit] = bit;
        }
        int[] outside = {FRAME_BITS, 32, -1, -32, Integer.MAX_VALUE, Integer.MIN_VALUE};
        System.arraycopy(outside, 0, bits, FRAME_BITS, outside.length);
        for (int bit : bits) {
            LossyLink link = twoFramesFrom(from);
            link.carry(from, 2, bit);
            dueLine("damaged bit " + bit, link, from, 1, 0);
            due("asks under way, bit " + bit, inside(link, "underWay", 1 - from), 1);
            link.carry(1 - from, 0, 0);
            dueLine("asked again, bit " + bit, link, from, 3, 0);
            link.carry(from, 0, 0);
            link.carry(from, 0, 0);
            dueLine("sent again, bit " + bit, link, from, 1, 1);
        }
    }

    private static void gap(int from) {
        LossyLink link = twoFramesFrom(from);
        link.carry(from, 1, 0);
        link.carry(from, 0, 0);
        dueLine("second without the first", link, from, 0, 0);
        link.carry(1 - from, 0, 0);
        dueLine("asked again", link, from, 2, 0);
        link.carry(from, 0, 0);
        link.carry(from, 0, 0);
        dueLine("both sent again", link, from, 0, 2);
    }

    private static void fire(int from) {
        LossyLink link = twoFramesFrom(from);
        link.carry(from, 1, 0);
        link.carry(from, 1, 0);
        dueLine("both lost", link, from, 0, 0);
        link.fire(1 - from);
        dueLine("the other one fired", link, from, 0, 0);
        link.fire(from);
        dueLine("fired", link, from, 2, 0);
        link.waiting(0);
        dueLine("all over", link, from, 0, 2);
        link.fire(from);
        dueLine("nothing to send again", link, from, 0, 2);
    }

    private static void window() {
        int[][] windowsAndMost = {
            {1, 1}, {2, 2}, {5, 5}, {30, 30}, {0, 1}, {-7, 1}, {Integer.MIN_VALUE, 1},
            {32, 32}, {33, 32}, {Integer.MAX_VALUE, 32}};
        for (int[] pair : windowsAndMost) {
            LossyLink link = new LossyLink(pair[0]);
            for (int i = 0; i < 30; i++) {
                link.give(0, i, false);
            }
            for (int i = 0; i < 5; i++) {
                link.fire(0);
            }
            due("under way, window " + pair[0], inside(link, "underWay", 0), pair[1]);
        }
    }

    /** A frame that is lost or arrives makes room for the next one. */
    private static void roomAgain() {
        for (int fault = 0; fault < 3; fault++) {
            LossyLink link = new LossyLink(2);
            for (int i = 0; i < 5; i++) {
                link.give(0, i, false);
            }
            due("under way before", inside(link, "underWay", 0), 2);
            link.carry(0, fault, 0);
            due("under way after fault " + fault, inside(link, "underWay", 0), 2);
        }
    }

    private static void carryAll(LossyLink link, int from) {
        for (int i = 0; i < 100 && inside(link, "underWay", from) > 0; i++) {
            link.carry(from, 0, 0);
        }
    }

    /** A station sends again what was asked for or waited for, and nothing that is confirmed. */
    private static void confirmedIsNotSentAgain(int from) {
        LossyLink link = twoFramesFrom(from);
        link.give(from, 30, false);
        link.carry(from, 0, 0);
        link.carry(1 - from, 0, 0);
        dueLine("one of three confirmed", link, from, 2, 1);
        due("confirmed", inside(link, "confirmed", from), 1);

        LossyLink narrow = new LossyLink(2);
        for (int i = 0; i < 4; i++) {
            narrow.give(from, i, false);
        }
        narrow.carry(from, 0, 0);
        narrow.carry(from, 0, 0);
        narrow.fire(from);
        carryAll(narrow, 1 - from);
        due("confirmed after firing", inside(narrow, "confirmed", from), 2);
        dueLine("fired too early", narrow, from, 2, 2);
        narrow.carry(from, 0, 0);
        narrow.carry(from, 0, 0);
        dueLine("the last two once more", narrow, from, 2, 4);
        narrow.carry(from, 0, 0);
        dueLine("none after these", narrow, from, 1, 4);
    }

    private static int below(int bound) {
        sequence = sequence * 6364136223846793005L + 1442695040888963407L;
        return (int) ((sequence >>> 33) % bound);
    }

    private static void anyCallOnTheLine(LossyLink link, int choice) {
        int station = choice & 1;
        switch ((choice >> 1) % 4) {
            case 0 -> link.give(station, choice & 255, false);
            case 1 -> link.fire(station);
            default -> link.carry(station, (choice >> 3) % 4, choice);
        }
    }

    private static void dueSame(String when, LossyLink link, LossyLink other) {
        for (String field : new String[] {"underWay", "received", "confirmed"}) {
            for (int station = 0; station < 2; station++) {
                due(when + ": " + field + " of station " + station,
                    inside(link, field, station), inside(other, field, station));
            }
        }
    }

    /** Replies that were owed, frames and numbers of the time before a reset leave no trace. */
    private static void reset() {
        for (int run = 0; run < 400; run++) {
            sequence = run;
            int window = 1 + run % 5;
            LossyLink used = new LossyLink(window);
            for (int i = 0; i < 100; i++) {
                anyCallOnTheLine(used, below(1 << 20));
            }
            used.reset();
            LossyLink fresh = new LossyLink(window);
            dueSame("run " + run + ", after reset", used, fresh);
            for (int i = 0; i < 100; i++) {
                int choice = below(1 << 20);
                anyCallOnTheLine(used, choice);
                anyCallOnTheLine(fresh, choice);
                dueSame("run " + run + ", " + (i + 1) + " calls after reset", used, fresh);
            }
        }
    }

    private static void ask(LossyLink link, int asked) {
        switch (asked) {
            case 0 -> link.waiting(0);
            case 1 -> link.messages(0);
            case 2 -> link.peek(0, 0);
            case 3 -> link.ends(0, 0);
            case 4 -> link.done(0);
            default -> link.sum(0);
        }
    }

    private static void question(int asked) {
        for (int window = 1; window <= 32; window++) {
            LossyLink link = new LossyLink(window);
            for (int i = 0; i < 30; i++) {
                link.give(0, i, false);
                link.give(1, i, false);
                link.carry(i & 1, i % 4, i);
            }
            ask(link, asked);
            for (int from = 0; from < 2; from++) {
                dueLine("after a question, window " + window, link, from, 0, 30);
                due("confirmed, window " + window, inside(link, "confirmed", from), 30);
            }
        }
    }

    public static void main(String[] args) {
        if (!hasField("underWay") || !hasField("received") || !hasField("confirmed")) {
            System.out.println("NOT TESTED: the class holds its line in other fields");
            return;
        }
        for (int from = 0; from < 2; from++) {
            faults(from);
            damage(from);
            gap(from);
            fire(from);
            confirmedIsNotSentAgain(from);
        }
        window();
        roomAgain();
        reset();
        for (int asked = 0; asked < 6; asked++) {
            question(asked);
        }
        System.out.println(wrong == 0 ? "the line is as due" : wrong + " are not as due");
        if (wrong != 0) {
            System.exit(1);
        }
    }
}
