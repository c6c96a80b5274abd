import java.util.ArrayList;
import java.util.List;

/**
 * Long mixed runs of 512 calls against two plain queues that know of no line. The runs are the same
 * every time: their choices come from a fixed sequence of numbers.
 */
public final class ModelTest {
    private static final int RUNS = 4000;
    private static final int CALLS = 512;
    private static final int MOST_WRONG = 20;

    private static int wrong = 0;
    private static long sequence;

    private final List<List<Integer>> queues = List.of(new ArrayList<>(), new ArrayList<>());
    private final int[] done = new int[2];
    private final LossyLink link;
    private final int run;
    private int call;

    private ModelTest(int run) {
        this.run = run;
        sequence = run * 7919L + 1;
        this.link = new LossyLink(run % 40 - 3);
    }

    private static int below(int bound) {
        sequence = sequence * 6364136223846793005L + 1442695040888963407L;
        return (int) ((sequence >>> 33) % bound);
    }

    private void due(String name, int got, int want) {
        if (got != want) {
            wrong++;
            System.out.println("run " + run + ", call " + call + ": " + name + " answered "
                + got + ", due is " + want);
        }
    }

    private static boolean isBad(int station) {
        return station != 0 && station != 1;
    }

    private void give(int station, int b, boolean end) {
        int want;
        if (isBad(station)) {
            want = -1;
        } else if (b < 0 || b > 255) {
            want = -4;
        } else if (queues.get(1 - station).size() == 30) {
            want = -2;
        } else {
            queues.get(1 - station).add(end ? b + 256 : b);
            want = queues.get(1 - station).size();
        }
        due("give", link.give(station, b, end), want);
    }

    private void drop(int station, int count) {
        queues.get(station).subList(0, count).clear();
        done[station] += count;
    }

    private void take(int station) {
        int want = -1;
        if (!isBad(station)) {
            want = peekOf(station, 0);
            drop(station, want == -3 ? 0 : 1);
        }
        due("take", link.take(station), want);
    }

    private void takeMessage(int station) {
        int want = -1;
        if (!isBad(station)) {
            int end = 0;
            while (end < queues.get(station).size() && queues.get(station).get(end) < 256) {
                end++;
            }
            want = end == queues.get(station).size() ? -3 : end + 1;
            drop(station, want == -3 ? 0 : want);
        }
        due("takeMessage", link.takeMessage(station), want);
    }

    private void skip(int station) {
        int want = -1;
        if (!isBad(station)) {
            want = queues.get(station).size();
            drop(station, want);
        }
        due("skip", link.skip(station), want);
    }

    private void reset() {
        for (int station = 0; station < 2; station++) {
            queues.get(station).clear();
            done[station] = 0;
        }
        link.reset();
    }

    private int peekOf(int station, int i) {
        List<Integer> queue = queues.get(station);
        return i < 0 || i >= queue.size() ? -3 : queue.get(i) % 256;
    }

    private void question(int station, int i) {
        boolean bad = isBad(station);
        List<Integer> queue = bad ? List.of() : queues.get(station);
        switch (below(6)) {
            case 0 -> due("waiting", link.waiting(station), bad ? -1 : queue.size());
            case 1 -> due("messages", link.messages(station),
                bad ? -1 : (int) queue.stream().filter(cell -> cell > 255).count());
            case 2 -> due("peek", link.peek(station, i), bad ? -1 : peekOf(station, i));
            case 3 -> due("ends", link.ends(station, i) ? 1 : 0,
                i >= 0 && i < queue.size() && queue.get(i) > 255 ? 1 : 0);
            case 4 -> due("done", link.done(station), bad ? -1 : done[station]);
            default -> due("sum", link.sum(station),
                bad ? -1 : queue.stream().mapToInt(cell -> cell % 256).sum());
        }
    }

    private int anyStation() {
        return below(60) == 0 ? below(9) - 4 : below(2);
    }

    private int anyByte() {
        return below(40) == 0 ? below(2000) - 1000 : below(256);
    }

    private int anyFault(int faultiness) {
        if (below(100) >= faultiness) {
            return 0;
        }
        return below(30) == 0 ? below(20) - 10 : 1 + below(3);
    }

    /** Rare looks leave the line time to fall into disorder; frequent ones test every state. */
    private void calls() {
        int looks = new int[] {1, 4, 15, 40}[below(4)];
        int lineShare = 20 + below(60);
        int faultiness = new int[] {0, 20, 60, 100}[below(4)];
        for (call = 1; call <= CALLS && wrong < MOST_WRONG; call++) {
            int station = anyStation();
            if (below(100) < looks) {
                look(station);
            } else if (below(100) < lineShare) {
                int want = isBad(station) ? -1 : 0;
                if (below(6) == 0) {
                    due("fire", link.fire(station), want);
                } else {
                    due("carry", link.carry(station, anyFault(faultiness), below(200) - 100), want);
                }
            } else {
                give(station, anyByte(), below(5) == 0);
            }
        }
    }

    private void look(int station) {
        switch (below(8)) {
            case 0, 1 -> take(station);
            case 2 -> takeMessage(station);
            case 3 -> skip(station);
            case 4 -> {
                if (below(4) == 0) {
                    reset();
                }
            }
            default -> question(station, below(36) - 3);
        }
    }

    public static void main(String[] args) {
        for (int run = 0; run < RUNS && wrong < MOST_WRONG; run++) {
            new ModelTest(run).calls();
        }
        System.out.println(wrong == 0 ? "all answers are as due" : wrong + " are not as due");
        if (wrong != 0) {
            System.exit(1);
        }
    }
}
