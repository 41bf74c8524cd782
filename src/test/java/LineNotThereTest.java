import java.util.function.Supplier;

// with and without of a line that is not there: they answer -2 and change nothing, however it came not to be there.
public final class LineNotThereTest extends Checks {
    private static final String REFUSED = "a line that is not there where the call is about one that is, is refused:";
    private static final String NOTHING = "the call answers -2 and changes nothing.";

    // No point, one point, points that the other lines join, and a point that only line 9 comes to.
    private static final int[][] MARKINGS = {{}, {3}, {0, 2, 4}, {0, 6}};

    // The points 0 to 5 stay joined whichever one line is missing.
    private static final int[][] NET = {of(0, 0, 1, 1), of(1, 1, 2, 2), of(2, 2, 3, 4), of(3, 3, 4, 8), of(4, 4, 5, 16),
        of(5, 5, 0, 32), of(6, 1, 4, 64), of(7, 2, 5, 99), of(8, 5, 2, 99), of(9, 5, 6, 100)};

    public static void main(String[] args) {
        sentence("Terms, no line at all", REFUSED, LineNotThereTest::noLineAtAll);
        sentence("Terms, never put in", REFUSED, LineNotThereTest::neverPutIn);
        sentence("Terms, put in but refused", REFUSED, LineNotThereTest::putInButRefused);
        sentence("Terms, cut", REFUSED, LineNotThereTest::cutOnce);
        sentence("Terms, cut again", REFUSED, LineNotThereTest::cutAgain);
        sentence("Terms, all lines cut", REFUSED, LineNotThereTest::allLinesCut);
        sentence("Terms, there again", REFUSED, LineNotThereTest::thereAgain);
        sentence("Terms, in a long run", NOTHING, LineNotThereTest::asAskedInALongRun);
        end();
    }

    private static void noLineAtAll() {
        dueRefusedForEachLine(k -> new SteinerNet());
    }

    private static void neverPutIn() {
        dueRefusedForEachLine(LineNotThereTest::allBut);
    }

    private static void putInButRefused() {
        dueRefusedForEachLine(k -> {
            SteinerNet net = allBut(k);
            due("line(" + k + ", 3, 3, 5)", net.line(k, 3, 3, 5), -2);
            due("line(" + k + ", 0, 6, 101)", net.line(k, 0, 6, 101), -2);
            due("line(" + k + ", 0, 7, 5)", net.line(k, 0, 7, 5), -2);
            return net;
        });
    }

    private static void cutOnce() {
        dueRefusedForEachLine(k -> {
            SteinerNet net = netOf(NET);
            due("cut(" + k + ")", net.cut(k), 0);
            return net;
        });
    }

    private static void cutAgain() {
        dueRefusedForEachLine(k -> {
            SteinerNet net = netOf(NET);
            due("cut(" + k + ")", net.cut(k), 0);
            put(net, k, 6, 0, 1);
            due("cut(" + k + ") again", net.cut(k), 0);
            due("cut(" + k + ") once more", net.cut(k), -2);
            return net;
        });
    }

    private static void allLinesCut() {
        dueRefusedForEachLine(k -> {
            SteinerNet net = netOf(NET);
            for (int line = 0; line < LINES; line++) {
                due("cut(" + line + ")", net.cut(line), 0);
            }
            return net;
        });
    }

    private static void thereAgain() {
        for (int k = 0; k < LINES; k++) {
            SteinerNet net = allBut(k);
            dueBothRefused("before line " + k + " is put in", net, k);
            put(net, k, 0, 6, 77);
            due("put in: with(" + k + ")", net.with(k), 77);
            due("put in: without(" + k + ")", net.without(k), 0);
            due("cut(" + k + ")", net.cut(k), 0);
            dueBothRefused("after line " + k + " is cut", net, k);
            put(net, k, 6, 0, 3);
            due("put in again: with(" + k + ")", net.with(k), 3);
            due("put in again: without(" + k + ")", net.without(k), 0);
        }
    }

    // Two objects get the same changes; one is asked, after each of them, about every line that is not there.
    private static void asAskedInALongRun() {
        SteinerNet plain = new SteinerNet();
        SteinerNet asked = new SteinerNet();
        boolean[] there = new boolean[LINES];
        for (int step = 0; step < 20; step++) {
            int k = step * 7 % LINES;
            boolean on = step % 4 != 3;
            due("mark", asked.mark(step % POINTS, on), plain.mark(step % POINTS, on));
            if (there[k]) {
                due("cut(" + k + ")", asked.cut(k), plain.cut(k));
            } else {
                int[] l = NET[k];
                due("line(" + k + ")", asked.line(k, l[1], l[2], l[3]), plain.line(k, l[1], l[2], l[3]));
            }
            there[k] = !there[k];
            dueRefusedIfNotThere("step " + step, asked, there);
            due("step " + step + ": least()", asked.least(), plain.least());
        }
        dueAlike("after the run", asked, plain);
    }

    private static void dueRefusedIfNotThere(String when, SteinerNet net, boolean[] there) {
        for (int k = 0; k < LINES; k++) {
            if (!there[k]) {
                dueBothRefused(when, net, k);
            }
        }
    }

    private interface MakerForLine {
        SteinerNet netWithout(int line);
    }

    private static void dueRefusedForEachLine(MakerForLine maker) {
        for (int line = 0; line < LINES; line++) {
            int k = line;
            for (int[] marking : MARKINGS) {
                Supplier<SteinerNet> made = () -> marked(maker.netWithout(k), marking);
                String when = marking.length + " points marked: ";
                dueRefusedFrom(made, when + "with(" + k + ")", n -> n.with(k));
                dueRefusedFrom(made, when + "without(" + k + ")", n -> n.without(k));
            }
        }
    }

    private static void dueBothRefused(String when, SteinerNet net, int line) {
        due(when + ": with(" + line + ")", net.with(line), -2);
        due(when + ": without(" + line + ")", net.without(line), -2);
    }

    private static SteinerNet marked(SteinerNet net, int[] points) {
        markAll(net, points);
        return net;
    }

    private static SteinerNet allBut(int line) {
        SteinerNet net = new SteinerNet();
        for (int[] l : NET) {
            if (l[0] != line) {
                put(net, l[0], l[1], l[2], l[3]);
            }
        }
        return net;
    }
}
