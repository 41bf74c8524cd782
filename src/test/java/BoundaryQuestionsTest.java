// One method for each sentence of the promises 5 to 11 that names a boundary case.
public final class BoundaryQuestionsTest extends Checks {
    public static void main(String[] args) {
        String least = "The least price of a choice that joins the marked points.";
        sentence("Promise 5, empty", least, BoundaryQuestionsTest::promise5Empty);
        sentence("Promise 5, full", least, BoundaryQuestionsTest::promise5Full);
        sentence("Promise 5, none", least, BoundaryQuestionsTest::promise5None);
        sentence("Promise 5, over others", least, BoundaryQuestionsTest::promise5OverPointsNotMarked);

        sentence("Promise 6", "1 if the line belongs to the BEST choice, else 0;",
                BoundaryQuestionsTest::promise6Belongs);
        sentence("Promise 6", "-1 if no choice joins the marked points;", BoundaryQuestionsTest::promise6None);
        sentence("Promise 6", "-2.", BoundaryQuestionsTest::promise6Refuses);
        sentence("Promise 6", "the one with the least number.", BoundaryQuestionsTest::promise6LeastNumber);

        String with = "joins the marked points and has the line in it;";
        sentence("Promise 7", with, BoundaryQuestionsTest::promise7HasTheLine);
        sentence("Promise 7, none", with, BoundaryQuestionsTest::promise7None);
        sentence("Promise 7", "or -2.", BoundaryQuestionsTest::promise7Refuses);

        String without = "joins the marked points and doesn't have the line in it;";
        sentence("Promise 8", without, BoundaryQuestionsTest::promise8LacksTheLine);
        sentence("Promise 8, none", without, BoundaryQuestionsTest::promise8None);
        sentence("Promise 8", "or -2.", BoundaryQuestionsTest::promise8Refuses);

        String including = "joins the marked points and the point (all of them together);";
        sentence("Promise 9", including, BoundaryQuestionsTest::promise9AllTogether);
        sentence("Promise 9, marked already", including, BoundaryQuestionsTest::promise9MarkedAlready);
        sentence("Promise 9, none", including, BoundaryQuestionsTest::promise9None);
        sentence("Promise 9", "or -2.", BoundaryQuestionsTest::promise9Refuses);

        String between = "joins the two points a and b;";
        sentence("Promise 10", between, BoundaryQuestionsTest::promise10TwoPoints);
        sentence("Promise 10, a = b", between, BoundaryQuestionsTest::promise10SamePoint);
        sentence("Promise 10, none", between, BoundaryQuestionsTest::promise10None);
        sentence("Promise 10", "or -2.", BoundaryQuestionsTest::promise10Refuses);

        sentence("Promise 11", "chosen: -2 is tested before -1.", BoundaryQuestionsTest::promise11RefusalFirst);
        sentence("Promises 5 to 10", "the answers and state changes described above",
                BoundaryQuestionsTest::questionsChangeNothing);
        end();
    }

    private static void promise5Empty() {
        due("no line, no marked point: least()", new SteinerNet().least(), 0);
        SteinerNet unmarked = netOf(of(0, 0, 6, 100));
        due("no marked point: least()", unmarked.least(), 0);
        markAll(unmarked, 6);
        due("one marked point: least()", unmarked.least(), 0);
        markAll(unmarked, 0);
        due("two marked points: least()", unmarked.least(), 100);
    }

    private static void promise5Full() {
        SteinerNet net = allLinesAllMarked();
        due("ten lines, seven marked points: least()", net.least(), 210);
        // Line 6 comes in for line 5, then line 7 for line 2.
        due("cut(5)", net.cut(5), 0);
        due("without line 5: least()", net.least(), 220);
        due("cut(2)", net.cut(2), 0);
        due("without lines 5 and 2: least()", net.least(), 270);
        put(net, 5, 5, 6, 1);
        put(net, 2, 2, 3, 1);
        due("both back at the price 1: least()", net.least(), 122);
    }

    private static void promise5None() {
        SteinerNet empty = new SteinerNet();
        markAll(empty, 0, 1);
        due("no line, two marked points: least()", empty.least(), -1);
        markAll(empty, 2, 3, 4, 5, 6);
        due("no line, seven marked points: least()", empty.least(), -1);

        SteinerNet ring = new SteinerNet();
        for (int k = 0; k < 10; k++) {
            put(ring, k, k % 6, (k + 1) % 6, 1);
        }
        markAll(ring, 5, 6);
        due("ten lines, none at 6: least()", ring.least(), -1);
        due("mark(6, false)", ring.mark(6, false), 1);
        due("6 no longer marked: least()", ring.least(), 0);
    }

    private static void promise5OverPointsNotMarked() {
        SteinerNet net = netOf(of(0, 0, 1, 4), of(1, 1, 2, 4), of(2, 0, 2, 4),
                of(3, 0, 3, 2), of(4, 1, 3, 2), of(5, 2, 3, 2));
        markAll(net, 0, 1, 2);
        due("over 3: least()", net.least(), 6);
        put(net, 5, 2, 3, 4);
        due("over 3 as dear as without it: least()", net.least(), 8);
        put(net, 5, 2, 3, 5);
        due("a line dearer: least()", net.least(), 8);
    }

    private static void promise6Belongs() {
        SteinerNet net = allLinesAllMarked();
        dueChosen("ten lines, seven marked points", net, 1, 1, 1, 1, 1, 1, 0, 0, 0, 0);
        for (int p = 0; p < 7; p++) {
            due("mark(" + p + ", false)", net.mark(p, false), 1);
        }
        dueChosen("no marked point", net, 0, 0, 0, 0, 0, 0, 0, 0, 0, 0);
        markAll(net, 3);
        dueChosen("one marked point", net, 0, 0, 0, 0, 0, 0, 0, 0, 0, 0);
        markAll(net, 6);
        dueChosen("3 and 6 marked", net, 1, 1, 1, 0, 0, 0, 1, 0, 0, 0);
        put(net, 9, 3, 6, 1);
        dueChosen("line 9 put in again", net, 0, 0, 0, 0, 0, 0, 0, 0, 0, 1);
    }

    private static void promise6None() {
        SteinerNet net = allLinesAllMarked();
        for (int k = 5; k <= 6; k++) {
            due("cut(" + k + ")", net.cut(k), 0);
        }
        dueChosen("no line to 6", net, -1, -1, -1, -1, -1, -2, -2, -1, -1, -1);
        due("mark(6, false)", net.mark(6, false), 1);
        dueChosen("6 no longer marked", net, 1, 1, 1, 1, 1, -2, -2, 0, 0, 0);
    }

    private static void promise6Refuses() {
        for (int k : WRONG_LINES) {
            dueRefused("chosen(" + k + ")", n -> n.chosen(k));
        }
        for (int k = 0; k < 10; k++) {
            int line = k;
            dueRefusedFrom(SteinerNet::new, "no line: chosen(" + k + ")", n -> n.chosen(line));
        }
        dueRefusedFrom(Checks::someLines, "never there: chosen(6)", n -> n.chosen(6));
        dueRefusedFrom(Checks::noChoiceJoins, "cut before: chosen(1)", n -> n.chosen(1));
    }

    private static void promise6LeastNumber() {
        // Ten choices of one line each and of the same price.
        SteinerNet same = new SteinerNet();
        for (int k = 9; k >= 0; k--) {
            put(same, k, k % 2 == 0 ? 0 : 6, k % 2 == 0 ? 6 : 0, 100);
        }
        markAll(same, 0, 6);
        for (int gone = 0; gone < 10; gone++) {
            for (int k = gone; k < 10; k++) {
                due("lines " + gone + " to 9: chosen(" + k + ")", same.chosen(k), k == gone ? 1 : 0);
            }
            due("cut(" + gone + ")", same.cut(gone), 0);
        }

        // A lower price wins over any number.
        SteinerNet cheap = netOf(of(0, 0, 6, 100), of(9, 0, 6, 99));
        markAll(cheap, 0, 6);
        due("a lower price: chosen(0)", cheap.chosen(0), 0);
        due("a lower price: chosen(9)", cheap.chosen(9), 1);

        // Lines 0 and 9 (number 513) against lines 7 and 8 (number 384): the highest line decides.
        SteinerNet high = netOf(of(0, 0, 1, 3), of(9, 1, 6, 3), of(7, 0, 2, 3), of(8, 2, 6, 3));
        markAll(high, 0, 6);
        due("513 against 384: chosen(0)", high.chosen(0), 0);
        due("513 against 384: chosen(7)", high.chosen(7), 1);
        due("513 against 384: chosen(8)", high.chosen(8), 1);
        due("513 against 384: chosen(9)", high.chosen(9), 0);

        // A ring of seven lines of the same price lets go of the one with the highest number.
        SteinerNet ring = new SteinerNet();
        for (int p = 0; p < 7; p++) {
            put(ring, p, p, (p + 1) % 7, 50);
        }
        markAll(ring, 0, 1, 2, 3, 4, 5, 6);
        dueChosen("a ring", ring, 1, 1, 1, 1, 1, 1, 0);
    }

    private static void promise7HasTheLine() {
        SteinerNet net = netOf(of(0, 0, 1, 5), of(1, 0, 1, 100), of(9, 5, 6, 1));
        due("no marked point: with(0)", net.with(0), 5);
        due("no marked point: with(9)", net.with(9), 1);
        markAll(net, 0);
        due("one marked point: with(1)", net.with(1), 100);
        markAll(net, 1);
        due("in the best choice: with(0)", net.with(0), 5);
        due("in its place: with(1)", net.with(1), 100);
        due("beside it: with(9)", net.with(9), 6);
        // The six cheap lines join all, so each dearer one comes in for the dearest of them in its ring.
        int[] full = {210, 210, 210, 210, 210, 210, 220, 260, 270, 260};
        SteinerNet all = allLinesAllMarked();
        for (int k = 0; k < 10; k++) {
            due("ten lines, seven marked points: with(" + k + ")", all.with(k), full[k]);
        }
    }

    private static void promise7None() {
        SteinerNet net = noChoiceJoins();
        due("apart: with(0)", net.with(0), -1);
        due("apart: with(2)", net.with(2), -1);
        put(net, 9, 1, 2, 100);
        due("joined: with(0)", net.with(0), 105);
    }

    private static void promise7Refuses() {
        for (int k : WRONG_LINES) {
            dueRefused("with(" + k + ")", n -> n.with(k));
        }
        for (int k = 0; k < 10; k++) {
            int line = k;
            dueRefusedFrom(SteinerNet::new, "no line: with(" + k + ")", n -> n.with(line));
        }
        dueRefusedFrom(Checks::someLines, "never there: with(6)", n -> n.with(6));
        dueRefusedFrom(Checks::noChoiceJoins, "cut before, and no choice joins: with(1)", n -> n.with(1));
        dueRefusedFrom(Checks::noChoiceJoins, "never there, and no choice joins: with(9)", n -> n.with(9));
    }

    private static void promise8LacksTheLine() {
        SteinerNet net = netOf(of(0, 0, 1, 5), of(1, 0, 1, 100), of(9, 5, 6, 1));
        due("no marked point: without(0)", net.without(0), 0);
        markAll(net, 0);
        due("one marked point: without(0)", net.without(0), 0);
        markAll(net, 1);
        due("in the best choice: without(0)", net.without(0), 100);
        due("not in it: without(1)", net.without(1), 5);
        due("beside it: without(9)", net.without(9), 5);
        due("still there: with(0)", net.with(0), 5);
        put(net, 1, 0, 1, 5);
        due("two of the same price: without(0)", net.without(0), 5);
        due("two of the same price: without(1)", net.without(1), 5);
        int[] full = {270, 260, 250, 240, 230, 220, 210, 210, 210, 210};
        SteinerNet all = allLinesAllMarked();
        for (int k = 0; k < 10; k++) {
            due("ten lines, seven marked points: without(" + k + ")", all.without(k), full[k]);
        }
    }

    private static void promise8None() {
        SteinerNet net = netOf(of(0, 0, 1, 5), of(1, 1, 2, 5), of(9, 2, 3, 5));
        markAll(net, 0, 2);
        due("the only way: without(0)", net.without(0), -1);
        due("the only way: without(1)", net.without(1), -1);
        due("not on the way: without(9)", net.without(9), 10);
        markAll(net, 6);
        due("no choice at all: without(9)", net.without(9), -1);
        SteinerNet single = netOf(of(4, 0, 6, 5));
        markAll(single, 0, 6);
        due("the only line: without(4)", single.without(4), -1);
    }

    private static void promise8Refuses() {
        for (int k : WRONG_LINES) {
            dueRefused("without(" + k + ")", n -> n.without(k));
        }
        for (int k = 0; k < 10; k++) {
            int line = k;
            dueRefusedFrom(SteinerNet::new, "no line: without(" + k + ")", n -> n.without(line));
        }
        // No choice has a line that is not there, and yet the question about one is refused.
        dueRefusedFrom(Checks::someLines, "never there: without(6)", n -> n.without(6));
        dueRefusedFrom(Checks::someLines, "never there: without(8)", n -> n.without(8));
        dueRefusedFrom(Checks::noChoiceJoins, "cut before, and no choice joins: without(1)", n -> n.without(1));
    }

    private static void promise9AllTogether() {
        SteinerNet net = netOf(of(0, 0, 1, 4), of(1, 1, 2, 4), of(2, 0, 2, 4),
                of(3, 0, 3, 2), of(4, 1, 3, 2), of(5, 2, 3, 2), of(9, 3, 6, 100));
        for (int p = 0; p < 7; p++) {
            due("no marked point: including(" + p + ")", net.including(p), 0);
        }
        markAll(net, 0);
        due("one marked point: including(6)", net.including(6), 102);
        markAll(net, 1);
        due("two marked points: including(2)", net.including(2), 6);
        due("two marked points: including(3)", net.including(3), 4);
        due("two marked points: including(6)", net.including(6), 104);
        due("not marked by the question: least()", net.least(), 4);
        due("not marked by the question: mark(6, false)", net.mark(6, false), 0);
    }

    private static void promise9MarkedAlready() {
        SteinerNet net = allLinesAllMarked();
        for (int p = 0; p < 7; p++) {
            due("seven marked points: including(" + p + ")", net.including(p), 210);
        }
        SteinerNet alone = new SteinerNet();
        markAll(alone, 6);
        due("no line, marked alone: including(6)", alone.including(6), 0);
    }

    private static void promise9None() {
        SteinerNet alone = new SteinerNet();
        markAll(alone, 6);
        for (int p = 0; p < 6; p++) {
            due("no line: including(" + p + ")", alone.including(p), -1);
        }
        SteinerNet some = someLines();
        due("a point without a line: including(4)", some.including(4), -1);
        SteinerNet apart = noChoiceJoins();
        for (int p = 0; p < 7; p++) {
            due("no choice joins the marked points: including(" + p + ")", apart.including(p), -1);
        }
    }

    private static void promise9Refuses() {
        for (int p : WRONG_POINTS) {
            dueRefused("including(" + p + ")", n -> n.including(p));
        }
    }

    private static void promise10TwoPoints() {
        SteinerNet net = netOf(of(0, 0, 1, 10), of(1, 1, 6, 10), of(2, 0, 6, 20), of(9, 2, 3, 1));
        due("two ways of the same price: between(0, 6)", net.between(0, 6), 20);
        due("the other way round: between(6, 0)", net.between(6, 0), 20);
        put(net, 2, 0, 6, 19);
        due("line 2 cheaper: between(0, 6)", net.between(0, 6), 19);
        put(net, 2, 0, 6, 100);
        due("line 2 dearer: between(0, 6)", net.between(0, 6), 20);
        markAll(net, 2, 4, 5);
        due("marked points don't count: between(0, 6)", net.between(0, 6), 20);
        due("marked points don't count: between(2, 3)", net.between(2, 3), 1);
        due("not marked by the question: mark(0, false)", net.mark(0, false), 0);

        int[] fromZero = {0, 10, 30, 60, 100, 110, 70};
        SteinerNet all = allLinesAllMarked();
        for (int p = 0; p < 7; p++) {
            due("ten lines, seven marked points: between(0, " + p + ")", all.between(0, p), fromZero[p]);
            due("ten lines, seven marked points: between(" + p + ", 0)", all.between(p, 0), fromZero[p]);
        }
    }

    private static void promise10SamePoint() {
        SteinerNet empty = new SteinerNet();
        SteinerNet full = allLinesAllMarked();
        SteinerNet apart = noChoiceJoins();
        for (int p = 0; p < 7; p++) {
            due("no line: between(" + p + ", " + p + ")", empty.between(p, p), 0);
            due("ten lines: between(" + p + ", " + p + ")", full.between(p, p), 0);
            due("no choice joins the marked points: between(" + p + ", " + p + ")", apart.between(p, p), 0);
        }
    }

    private static void promise10None() {
        SteinerNet empty = new SteinerNet();
        for (int a = 0; a < 7; a++) {
            for (int b = 0; b < 7; b++) {
                due("no line: between(" + a + ", " + b + ")", empty.between(a, b), a == b ? 0 : -1);
            }
        }
        SteinerNet some = someLines();
        for (int p = 0; p < 7; p++) {
            due("a point without a line: between(4, " + p + ")", some.between(4, p), p == 4 ? 0 : -1);
            due("a point without a line: between(" + p + ", 4)", some.between(p, 4), p == 4 ? 0 : -1);
        }
    }

    private static void promise10Refuses() {
        for (int p : WRONG_POINTS) {
            dueRefused("between(" + p + ", 0)", n -> n.between(p, 0));
            dueRefused("between(6, " + p + ")", n -> n.between(6, p));
            dueRefused("between(" + p + ", " + p + ")", n -> n.between(p, p));
        }
        dueRefused("between(-1, 7)", n -> n.between(-1, 7));
    }

    private static void promise11RefusalFirst() {
        SteinerNet empty = new SteinerNet();
        markAll(empty, 0, 6);
        for (int k = 0; k < 10; k++) {
            due("no line, no choice joins: chosen(" + k + ")", empty.chosen(k), -2);
        }
        SteinerNet net = noChoiceJoins();
        dueChosen("no choice joins", net, -1, -2, -1, -2, -2, -2, -2, -2, -2, -2);
        for (int k : WRONG_LINES) {
            due("no choice joins: chosen(" + k + ")", net.chosen(k), -2);
        }
        SteinerNet last = netOf(of(0, 0, 1, 5), of(9, 1, 6, 5));
        markAll(last, 0, 6);
        due("chosen(9)", last.chosen(9), 1);
        due("cut(9)", last.cut(9), 0);
        due("cut just now, so no choice joins: chosen(9)", last.chosen(9), -2);
        due("still there, but no choice joins: chosen(0)", last.chosen(0), -1);
    }

    private static void questionsChangeNothing() {
        dueUnchanged("least()", n -> n.least());
        for (int k = 0; k < 10; k++) {
            int line = k;
            dueUnchanged("chosen(" + k + ")", n -> n.chosen(line));
            dueUnchanged("with(" + k + ")", n -> n.with(line));
            dueUnchanged("without(" + k + ")", n -> n.without(line));
        }
        for (int a = 0; a < 7; a++) {
            int p = a;
            dueUnchanged("including(" + a + ")", n -> n.including(p));
            for (int b = 0; b < 7; b++) {
                int q = b;
                dueUnchanged("between(" + a + ", " + b + ")", n -> n.between(p, q));
            }
        }
    }
}
