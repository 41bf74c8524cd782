// One method for each sentence of the promises 1 to 4 that names a boundary case.
public final class BoundaryChangesTest extends Checks {
    public static void main(String[] args) {
        sentence("Promise 1", "No line,", BoundaryChangesTest::promise1NoLine);
        sentence("Promise 1", "no marked point.", BoundaryChangesTest::promise1NoMarkedPoint);
        sentence("Promise 2", "The line is there, joins a and b and has the price",
                BoundaryChangesTest::promise2TheLineIsThere);
        sentence("Promise 2", "(in place of what it was before)", BoundaryChangesTest::promise2InPlace);
        sentence("Promise 2, after cut", "(in place of what it was before)", BoundaryChangesTest::promise2AfterCut);
        sentence("Promise 2", "Answers 0;", BoundaryChangesTest::promise2Answers0);
        sentence("Promise 2", "-2 if line is not from 0 to 9,", BoundaryChangesTest::promise2LineNotFrom0To9);
        sentence("Promise 2", "or a or b is not from 0 to 6,", BoundaryChangesTest::promise2PointNotFrom0To6);
        sentence("Promise 2", "or a = b,", BoundaryChangesTest::promise2AEqualsB);
        sentence("Promise 2", "or price is not from 1 to 100.", BoundaryChangesTest::promise2PriceNotFrom1To100);
        sentence("Promise 3", "The line is there no longer.", BoundaryChangesTest::promise3ThereNoLonger);
        sentence("Promise 3", "Answers 0,", BoundaryChangesTest::promise3Answers0);
        sentence("Promise 3, number", "or -2.", BoundaryChangesTest::promise3RefusesWrongNumbers);
        sentence("Promise 3, not there", "or -2.", BoundaryChangesTest::promise3RefusesLinesNotThere);
        sentence("Promise 4", "The point is marked from now on (on is true)", BoundaryChangesTest::promise4On);
        sentence("Promise 4", "or not (on is false).", BoundaryChangesTest::promise4Off);
        sentence("Promise 4", "Answers 1 if it was marked before, 0 if not,", BoundaryChangesTest::promise4Answers);
        sentence("Promise 4", "or -2.", BoundaryChangesTest::promise4Refuses);
        end();
    }

    private static void promise1NoLine() {
        SteinerNet net = new SteinerNet();
        for (int k = 0; k < 10; k++) {
            due("cut(" + k + ")", net.cut(k), -2);
            due("chosen(" + k + ")", net.chosen(k), -2);
            due("with(" + k + ")", net.with(k), -2);
            due("without(" + k + ")", net.without(k), -2);
        }
        for (int a = 0; a < 7; a++) {
            for (int b = 0; b < 7; b++) {
                due("between(" + a + ", " + b + ")", net.between(a, b), a == b ? 0 : -1);
            }
        }
        // An object that was made before has no part in a new one.
        allLinesAllMarked();
        due("after another object: between(0, 1)", new SteinerNet().between(0, 1), -1);
    }

    private static void promise1NoMarkedPoint() {
        due("least()", new SteinerNet().least(), 0);
        for (int p = 0; p < 7; p++) {
            SteinerNet net = new SteinerNet();
            for (int other = 0; other < 7; other++) {
                due("including(" + other + ")", net.including(other), 0);
            }
            due("mark(" + p + ", true)", net.mark(p, true), 0);
            due("mark(" + p + ", false) on another", new SteinerNet().mark(p, false), 0);
        }
    }

    private static void promise2TheLineIsThere() {
        int[] prices = {1, 2, 99, 100};
        for (int k = 0; k < 10; k += 9) {
            for (int price : prices) {
                dueSingleLine(k, 0, 6, price);
                dueSingleLine(k, 6, 0, price);
                dueSingleLine(k, 5, 6, price);
                dueSingleLine(k, 1, 0, price);
            }
        }
    }

    private static void dueSingleLine(int line, int a, int b, int price) {
        SteinerNet net = new SteinerNet();
        put(net, line, a, b, price);
        for (int k = 0; k < 10; k++) {
            due("with(" + k + ")", net.with(k), k == line ? price : -2);
        }
        for (int p = 0; p < 7; p++) {
            for (int q = 0; q < 7; q++) {
                boolean ends = p == a && q == b || p == b && q == a;
                due("between(" + p + ", " + q + ")", net.between(p, q), p == q ? 0 : ends ? price : -1);
            }
        }
    }

    private static void promise2InPlace() {
        for (int k = 0; k < 10; k++) {
            SteinerNet net = allLinesAllMarked();
            put(net, k, 2, 6, 1);
            SteinerNet once = new SteinerNet();
            int[][] lines = {{0, 1, 10}, {1, 2, 20}, {2, 3, 30}, {3, 4, 40}, {4, 5, 50}, {5, 6, 60}, {6, 0, 70},
                {0, 3, 80}, {3, 0, 90}, {1, 5, 100}};
            lines[k] = new int[] {2, 6, 1};
            for (int other = 0; other < 10; other++) {
                put(once, other, lines[other][0], lines[other][1], lines[other][2]);
            }
            markAll(once, 0, 1, 2, 3, 4, 5, 6);
            dueAlike("line " + k + " put in again", net, once);
        }
        SteinerNet net = netOf(of(4, 0, 1, 10));
        put(net, 4, 0, 1, 100);
        due("dearer: between(0, 1)", net.between(0, 1), 100);
        put(net, 4, 0, 1, 1);
        due("cheaper: between(0, 1)", net.between(0, 1), 1);
        put(net, 4, 1, 0, 1);
        due("turned round: between(0, 1)", net.between(0, 1), 1);
        put(net, 4, 1, 2, 1);
        due("one end moved: between(0, 1)", net.between(0, 1), -1);
        due("one end moved: between(0, 2)", net.between(0, 2), -1);
        due("one end moved: between(1, 2)", net.between(1, 2), 1);
        due("cut(4)", net.cut(4), 0);
        due("cut once, whatever it was before: cut(4)", net.cut(4), -2);
    }

    private static void promise2AfterCut() {
        SteinerNet net = netOf(of(9, 0, 1, 10));
        markAll(net, 0, 6);
        due("cut(9)", net.cut(9), 0);
        put(net, 9, 6, 0, 99);
        due("back with other ends: least()", net.least(), 99);
        due("back with other ends: between(0, 1)", net.between(0, 1), -1);
        due("back with other ends: chosen(9)", net.chosen(9), 1);
    }

    private static void promise2Answers0() {
        SteinerNet net = new SteinerNet();
        for (int k = 0; k < 10; k++) {
            due("a new line: line(" + k + ", 0, 6, 1)", net.line(k, 0, 6, 1), 0);
        }
        for (int k = 0; k < 10; k++) {
            due("the same again: line(" + k + ", 0, 6, 1)", net.line(k, 0, 6, 1), 0);
            due("another: line(" + k + ", 6, 5, 100)", net.line(k, 6, 5, 100), 0);
        }
    }

    private static void promise2LineNotFrom0To9() {
        for (int k : WRONG_LINES) {
            dueRefused("line(" + k + ", 0, 6, 1)", n -> n.line(k, 0, 6, 1));
            dueRefused("line(" + k + ", 6, 0, 100)", n -> n.line(k, 6, 0, 100));
        }
    }

    private static void promise2PointNotFrom0To6() {
        for (int p : WRONG_POINTS) {
            // Line 0 is there in most states and line 8 in few: a refused call may neither make nor change one.
            for (int k = 0; k <= 8; k += 8) {
                int line = k;
                dueRefused("line(" + k + ", " + p + ", 4, 1)", n -> n.line(line, p, 4, 1));
                dueRefused("line(" + k + ", 4, " + p + ", 1)", n -> n.line(line, 4, p, 1));
            }
            dueRefused("line(0, " + p + ", " + p + ", 1)", n -> n.line(0, p, p, 1));
        }
        dueRefused("line(0, -1, 7, 1)", n -> n.line(0, -1, 7, 1));
    }

    private static void promise2AEqualsB() {
        for (int p = 0; p < 7; p++) {
            int point = p;
            dueRefused("line(0, " + p + ", " + p + ", 1)", n -> n.line(0, point, point, 1));
            dueRefused("line(8, " + p + ", " + p + ", 100)", n -> n.line(8, point, point, 100));
        }
    }

    private static void promise2PriceNotFrom1To100() {
        for (int price : WRONG_PRICES) {
            dueRefused("line(0, 0, 6, " + price + ")", n -> n.line(0, 0, 6, price));
            dueRefused("line(8, 4, 0, " + price + ")", n -> n.line(8, 4, 0, price));
        }
    }

    private static void promise3ThereNoLonger() {
        for (int k = 0; k < 10; k++) {
            SteinerNet net = allLinesAllMarked();
            SteinerNet never = new SteinerNet();
            due("cut(" + k + ")", net.cut(k), 0);
            int[][] lines = {{0, 1}, {1, 2}, {2, 3}, {3, 4}, {4, 5}, {5, 6}, {6, 0}, {0, 3}, {3, 0}, {1, 5}};
            for (int other = 0; other < 10; other++) {
                if (other != k) {
                    put(never, other, lines[other][0], lines[other][1], 10 * (other + 1));
                }
            }
            markAll(never, 0, 1, 2, 3, 4, 5, 6);
            dueAlike("cut line " + k + " as one that never was there", net, never);
        }
        SteinerNet last = netOf(of(3, 0, 6, 5));
        due("cut(3)", last.cut(3), 0);
        dueAlike("the only line cut", last, new SteinerNet());
    }

    private static void promise3Answers0() {
        SteinerNet net = allLinesAllMarked();
        for (int k = 9; k >= 0; k--) {
            due("cut(" + k + ")", net.cut(k), 0);
        }
        for (int k = 0; k < 10; k++) {
            put(net, k, 0, 6, 100);
            due("put in again: cut(" + k + ")", net.cut(k), 0);
        }
    }

    private static void promise3RefusesWrongNumbers() {
        for (int k : WRONG_LINES) {
            dueRefused("cut(" + k + ")", n -> n.cut(k));
        }
    }

    private static void promise3RefusesLinesNotThere() {
        for (int k = 0; k < 10; k++) {
            int line = k;
            dueRefusedFrom(SteinerNet::new, "no line: cut(" + k + ")", n -> n.cut(line));
        }
        dueRefusedFrom(Checks::someLines, "never there: cut(6)", n -> n.cut(6));
        dueRefusedFrom(Checks::someLines, "never there: cut(8)", n -> n.cut(8));
        dueRefusedFrom(Checks::noChoiceJoins, "cut before: cut(1)", n -> n.cut(1));
        SteinerNet refused = new SteinerNet();
        due("line(5, 2, 2, 9)", refused.line(5, 2, 2, 9), -2);
        due("a refused line is not there: cut(5)", refused.cut(5), -2);
    }

    private static void promise4On() {
        SteinerNet net = netOf(of(0, 0, 1, 1), of(1, 1, 2, 2), of(2, 2, 3, 4),
                of(3, 3, 4, 8), of(4, 4, 5, 16), of(5, 5, 6, 32));
        for (int p = 0; p < 7; p++) {
            markAll(net, p);
            due("0 to " + p + " marked: least()", net.least(), (1 << p) - 1);
        }
        // A mark is no count: the second one changes nothing, and one call takes it away.
        for (int p = 0; p < 7; p++) {
            due("marked already: mark(" + p + ", true)", net.mark(p, true), 1);
            due("all seven marked: least()", net.least(), 63);
        }
        due("mark(6, false)", net.mark(6, false), 1);
        due("6 no longer marked: least()", net.least(), 31);
    }

    private static void promise4Off() {
        for (int p = 0; p < 7; p++) {
            SteinerNet net = allLinesAllMarked();
            due("mark(" + p + ", false)", net.mark(p, false), 1);
            for (int other = 0; other < 7; other++) {
                due("only " + p + " taken away: mark(" + other + ", true)", net.mark(other, true), other == p ? 0 : 1);
            }
        }
        SteinerNet none = new SteinerNet();
        for (int p = 0; p < 7; p++) {
            due("not marked: mark(" + p + ", false)", none.mark(p, false), 0);
        }
        dueAlike("none marked, all taken away", none, new SteinerNet());
    }

    private static void promise4Answers() {
        for (int p = 0; p < 7; p++) {
            SteinerNet net = new SteinerNet();
            due("first: mark(" + p + ", false)", net.mark(p, false), 0);
            due("then: mark(" + p + ", true)", net.mark(p, true), 0);
            due("again: mark(" + p + ", true)", net.mark(p, true), 1);
            due("then: mark(" + p + ", false)", net.mark(p, false), 1);
            due("again: mark(" + p + ", false)", net.mark(p, false), 0);
            due("at last: mark(" + p + ", true)", net.mark(p, true), 0);
        }
    }

    private static void promise4Refuses() {
        for (int p : WRONG_POINTS) {
            dueRefused("mark(" + p + ", true)", n -> n.mark(p, true));
            dueRefused("mark(" + p + ", false)", n -> n.mark(p, false));
        }
    }
}
