import java.util.function.Supplier;

// One method for each sentence of the document's 'What it is' and 'Terms' that names a boundary case.
public final class BoundaryTermsTest extends Checks {
    public static void main(String[] args) {
        sentence("What it is", "at most 512 calls after it has been made", BoundaryTermsTest::atMost512Calls);
        sentence("Terms", "POINTS are 0 to 6.", BoundaryTermsTest::pointsAre0To6);
        sentence("Terms", "LINES are numbered 0 to 9;", BoundaryTermsTest::linesAreNumbered0To9);
        sentence("Terms", "a line is there or not (none at the start);", BoundaryTermsTest::aLineIsThereOrNot);
        sentence("Terms", "joins two different points", BoundaryTermsTest::joinsTwoDifferentPoints);
        sentence("Terms", "has a price from 1 to 100.", BoundaryTermsTest::hasAPriceFrom1To100);
        sentence("Terms", "Several lines may join the same two points.", BoundaryTermsTest::severalLines);
        sentence("Terms", "Some points are MARKED (none at the start).", BoundaryTermsTest::somePointsAreMarked);
        sentence("Terms", "A CHOICE is a set of lines that are there.", BoundaryTermsTest::aChoiceIsOfLinesThere);
        sentence("Terms", "the sum of their prices (at most 1000);", BoundaryTermsTest::theSumOfTheirPrices);
        sentence("Terms", "its number is the sum of 2^k over its lines k.", BoundaryTermsTest::itsNumber);
        sentence("Terms", "A choice JOINS a set of points if", BoundaryTermsTest::aChoiceJoins);
        sentence("Terms, no point", "A set of no point or one point is joined by every choice,",
                BoundaryTermsTest::aSetOfNoPoint);
        sentence("Terms, one point", "A set of no point or one point is joined by every choice,",
                BoundaryTermsTest::aSetOfOnePoint);
        sentence("Terms", "also by the empty one.", BoundaryTermsTest::alsoByTheEmptyOne);
        sentence("Terms", "the answer is -1 if no choice has it.", BoundaryTermsTest::minus1IfNoChoiceHasIt);
        sentence("Terms, a point", "A point or line number out of range,",
                BoundaryTermsTest::aPointOutOfRangeIsRefused);
        sentence("Terms, a line", "A point or line number out of range,",
                BoundaryTermsTest::aLineOutOfRangeIsRefused);
        sentence("Terms", "or a line that is not there where the call is about one that is, is refused:",
                BoundaryTermsTest::aLineNotThereIsRefused);
        sentence("Terms", "the call answers -2 and changes nothing.", BoundaryTermsTest::answersMinus2);
        end();
    }

    private static void atMost512Calls() {
        due512th("line(0, 0, 6, 101)", n -> n.line(0, 0, 6, 101), -2);
        due512th("line(0, 0, 6, 1)", n -> n.line(0, 0, 6, 1), 0);
        due512th("cut(9)", n -> n.cut(9), 0);
        due512th("mark(3, true)", n -> n.mark(3, true), 1);
        due512th("least()", n -> n.least(), 100);
        due512th("chosen(9)", n -> n.chosen(9), 1);
        due512th("with(9)", n -> n.with(9), 100);
        due512th("without(9)", n -> n.without(9), -1);
        due512th("including(6)", n -> n.including(6), -1);
        due512th("between(0, 3)", n -> n.between(0, 3), 100);
    }

    private static void due512th(String what, Call call, int want) {
        SteinerNet net = new SteinerNet();
        for (int made = 0; made < 508; made += 4) {
            put(net, made / 4 % 10, 0, 3, 1 + made / 4 % 100);
            net.mark(made % 7, true);
            net.cut(made / 4 % 10);
            net.mark(made % 7, false);
        }
        put(net, 9, 0, 3, 100);
        markAll(net, 0, 3);
        due("512th call: " + what, call.on(net), want);
    }

    private static void pointsAre0To6() {
        for (int p = 0; p <= 6; p++) {
            SteinerNet net = new SteinerNet();
            int q = 6 - p == p ? 0 : 6 - p;
            put(net, 0, p, q, 8);
            due("mark(" + p + ", true)", net.mark(p, true), 0);
            due("including(" + p + ")", net.including(p), 0);
            due("including(" + q + ")", net.including(q), 8);
            due("between(" + p + ", " + q + ")", net.between(p, q), 8);
            due("between(" + q + ", " + p + ")", net.between(q, p), 8);
        }
        for (int p : WRONG_POINTS) {
            SteinerNet net = allLinesAllMarked();
            due("line(0, " + p + ", 0, 8)", net.line(0, p, 0, 8), -2);
            due("line(0, 6, " + p + ", 8)", net.line(0, 6, p, 8), -2);
            due("mark(" + p + ", true)", net.mark(p, true), -2);
            due("mark(" + p + ", false)", net.mark(p, false), -2);
            due("including(" + p + ")", net.including(p), -2);
            due("between(" + p + ", 0)", net.between(p, 0), -2);
            due("between(6, " + p + ")", net.between(6, p), -2);
        }
    }

    private static void linesAreNumbered0To9() {
        for (int k = 0; k <= 9; k++) {
            SteinerNet net = new SteinerNet();
            put(net, k, 0, 6, 8);
            due("chosen(" + k + ")", net.chosen(k), 0);
            due("with(" + k + ")", net.with(k), 8);
            due("without(" + k + ")", net.without(k), 0);
            due("cut(" + k + ")", net.cut(k), 0);
        }
        for (int k : WRONG_LINES) {
            SteinerNet net = allLinesAllMarked();
            due("line(" + k + ", 0, 6, 8)", net.line(k, 0, 6, 8), -2);
            due("chosen(" + k + ")", net.chosen(k), -2);
            due("with(" + k + ")", net.with(k), -2);
            due("without(" + k + ")", net.without(k), -2);
            due("cut(" + k + ")", net.cut(k), -2);
        }
    }

    private static void aLineIsThereOrNot() {
        SteinerNet net = new SteinerNet();
        for (int k = 0; k < 10; k++) {
            due("at the start: with(" + k + ")", net.with(k), -2);
        }
        for (int k = 0; k < 10; k++) {
            put(net, k, 0, 6, 8);
            for (int other = 0; other < 10; other++) {
                due("lines 0 to " + k + " are there: with(" + other + ")", net.with(other), other <= k ? 8 : -2);
            }
        }
        for (int k = 0; k < 10; k++) {
            due("cut(" + k + ")", net.cut(k), 0);
            for (int other = 0; other < 10; other++) {
                due("lines 0 to " + k + " are cut: with(" + other + ")", net.with(other), other > k ? 8 : -2);
            }
        }
        dueAlike("all lines cut again", net, new SteinerNet());
    }

    private static void joinsTwoDifferentPoints() {
        for (int a = 0; a < 7; a++) {
            for (int b = 0; b < 7; b++) {
                SteinerNet net = new SteinerNet();
                due("line(9, " + a + ", " + b + ", 5)", net.line(9, a, b, 5), a == b ? -2 : 0);
                due("with(9)", net.with(9), a == b ? -2 : 5);
                due("between(" + b + ", " + a + ")", net.between(b, a), a == b ? 0 : 5);
            }
        }
    }

    private static void hasAPriceFrom1To100() {
        for (int price = 1; price <= 100; price++) {
            SteinerNet net = new SteinerNet();
            put(net, 0, 0, 6, price);
            due("with(0) at the price " + price, net.with(0), price);
        }
        for (int price : WRONG_PRICES) {
            SteinerNet net = new SteinerNet();
            due("line(0, 0, 6, " + price + ")", net.line(0, 0, 6, price), -2);
            due("with(0) after the price " + price, net.with(0), -2);
        }
    }

    private static void severalLines() {
        SteinerNet net = new SteinerNet();
        for (int k = 0; k < 10; k++) {
            // Both orders of the ends are the same two points.
            put(net, k, k % 2 == 0 ? 0 : 6, k % 2 == 0 ? 6 : 0, 50 - k);
        }
        markAll(net, 0, 6);
        for (int k = 0; k < 10; k++) {
            due("ten lines: with(" + k + ")", net.with(k), 50 - k);
            due("ten lines: without(" + k + ")", net.without(k), k == 9 ? 42 : 41);
            due("ten lines: chosen(" + k + ")", net.chosen(k), k == 9 ? 1 : 0);
        }
        for (int k = 9; k >= 0; k--) {
            due("lines 0 to " + k + ": least()", net.least(), 50 - k);
            due("lines 0 to " + k + ": between(6, 0)", net.between(6, 0), 50 - k);
            due("cut(" + k + ")", net.cut(k), 0);
        }
        due("all cut: least()", net.least(), -1);
    }

    private static void somePointsAreMarked() {
        SteinerNet net = new SteinerNet();
        for (int p = 0; p < 7; p++) {
            due("at the start: mark(" + p + ", false)", net.mark(p, false), 0);
        }
        SteinerNet star = netOf(of(0, 0, 6, 1), of(1, 1, 6, 2), of(2, 2, 6, 4),
                of(3, 3, 6, 8), of(4, 4, 6, 16), of(5, 5, 6, 32));
        due("none marked: least()", star.least(), 0);
        markAll(star, 6);
        for (int p = 0; p < 6; p++) {
            markAll(star, p);
            due("6 and 0 to " + p + " marked: least()", star.least(), (2 << p) - 1);
        }
        for (int p = 5; p >= 0; p--) {
            due("mark(" + p + ", false)", star.mark(p, false), 1);
            due("from " + p + " on not marked: least()", star.least(), (1 << p) - 1);
        }
    }

    private static void aChoiceIsOfLinesThere() {
        SteinerNet net = netOf(of(0, 0, 1, 1), of(1, 1, 6, 1), of(9, 0, 6, 100));
        markAll(net, 0, 6);
        due("before the cut: least()", net.least(), 2);
        due("cut(1)", net.cut(1), 0);
        due("a line that was cut: least()", net.least(), 100);
        due("a line that was cut: with(0)", net.with(0), 101);
        due("a line that was cut: without(0)", net.without(0), 100);
        due("a line that was cut: without(9)", net.without(9), -1);
        due("a line that was cut: including(1)", net.including(1), 101);
        due("a line that was cut: between(1, 6)", net.between(1, 6), 101);
        due("a line that was cut: chosen(9)", net.chosen(9), 1);
        due("a line that was cut: chosen(0)", net.chosen(0), 0);
        due("cut(9)", net.cut(9), 0);
        due("no line to 6: least()", net.least(), -1);
    }

    private static void theSumOfTheirPrices() {
        SteinerNet dear = new SteinerNet();
        SteinerNet cheap = new SteinerNet();
        for (int k = 0; k < 10; k++) {
            put(dear, k, k % 7, (k + 1) % 7, 100);
            put(cheap, k, k % 7, (k + 1) % 7, 1);
        }
        markAll(dear, 0, 1, 2, 3, 4, 5, 6);
        markAll(cheap, 0, 1, 2, 3, 4, 5, 6);
        due("six lines of 100: least()", dear.least(), 600);
        due("six lines of 1: least()", cheap.least(), 6);
        for (int k = 0; k < 10; k++) {
            due("six lines of 100: with(" + k + ")", dear.with(k), 600);
            due("six lines of 1: with(" + k + ")", cheap.with(k), 6);
        }
        due("no line: between(3, 3)", dear.between(3, 3), 0);
    }

    private static void itsNumber() {
        SteinerNet ends = netOf(of(0, 0, 6, 5), of(9, 0, 6, 5));
        markAll(ends, 0, 6);
        due("1 against 512: chosen(0)", ends.chosen(0), 1);
        due("1 against 512: chosen(9)", ends.chosen(9), 0);

        // Six lines 3 to 8 (number 504) against line 9 (number 512), then lines 0 to 5 (63) against line 6 (64).
        for (int top = 6; top <= 9; top += 3) {
            SteinerNet chain = new SteinerNet();
            for (int p = 0; p < 6; p++) {
                put(chain, top - 6 + p, p, p + 1, 1);
            }
            put(chain, top, 0, 6, 6);
            markAll(chain, 0, 6);
            due("six low lines against line " + top + ": chosen(" + top + ")", chain.chosen(top), 0);
            for (int k = top - 6; k < top; k++) {
                due("six low lines against line " + top + ": chosen(" + k + ")", chain.chosen(k), 1);
            }
        }

        SteinerNet low = netOf(of(0, 0, 1, 2), of(1, 0, 1, 2), of(9, 1, 6, 2));
        markAll(low, 0, 6);
        due("513 against 514: chosen(0)", low.chosen(0), 1);
        due("513 against 514: chosen(1)", low.chosen(1), 0);
        due("513 against 514: chosen(9)", low.chosen(9), 1);
    }

    private static void aChoiceJoins() {
        // From end to end over all points, with the lines in the order of the way and against it.
        for (int turn = 0; turn < 2; turn++) {
            SteinerNet chain = new SteinerNet();
            for (int p = 0; p < 6; p++) {
                put(chain, turn == 0 ? p : 9 - p, p, p + 1, 10);
            }
            for (int a = 0; a < 7; a++) {
                for (int b = 0; b < 7; b++) {
                    int far = a < b ? b - a : a - b;
                    due("a chain: between(" + a + ", " + b + ")", chain.between(a, b), 10 * far);
                }
            }
        }
        SteinerNet pairs = netOf(of(0, 0, 1, 1), of(1, 2, 3, 1), of(2, 4, 5, 1));
        markAll(pairs, 0, 1, 2, 3);
        due("each has another but not every other one: least()", pairs.least(), -1);
        put(pairs, 3, 3, 4, 1);
        due("the third pair at one of them: least()", pairs.least(), -1);
        put(pairs, 4, 5, 0, 1);
        due("over the third pair: least()", pairs.least(), 5);
    }

    private static void aSetOfNoPoint() {
        SteinerNet net = allLinesAllMarked();
        for (int p = 0; p < 7; p++) {
            due("mark(" + p + ", false)", net.mark(p, false), 1);
        }
        due("least()", net.least(), 0);
        for (int k = 0; k < 10; k++) {
            due("chosen(" + k + ")", net.chosen(k), 0);
            due("with(" + k + ")", net.with(k), 10 * (k + 1));
            due("without(" + k + ")", net.without(k), 0);
        }
    }

    private static void aSetOfOnePoint() {
        for (int p = 0; p < 7; p++) {
            SteinerNet net = netOf(of(0, 0, 1, 7), of(9, 5, 6, 8));
            due("none marked: including(" + p + ")", net.including(p), 0);
            due("between(" + p + ", " + p + ")", net.between(p, p), 0);
            markAll(net, p);
            due(p + " marked: least()", net.least(), 0);
            due(p + " marked: including(" + p + ")", net.including(p), 0);
            due(p + " marked: chosen(0)", net.chosen(0), 0);
            due(p + " marked: chosen(9)", net.chosen(9), 0);
            due(p + " marked: with(0)", net.with(0), 7);
            due(p + " marked: with(9)", net.with(9), 8);
            due(p + " marked: without(0)", net.without(0), 0);
            due(p + " marked: without(9)", net.without(9), 0);
        }
    }

    private static void alsoByTheEmptyOne() {
        SteinerNet net = new SteinerNet();
        due("no line, no point: least()", net.least(), 0);
        for (int p = 0; p < 7; p++) {
            due("no line: including(" + p + ")", net.including(p), 0);
            due("no line: between(" + p + ", " + p + ")", net.between(p, p), 0);
            due("mark(" + p + ", true)", net.mark(p, true), 0);
            due("no line, one point: least()", net.least(), 0);
            due("mark(" + p + ", false)", net.mark(p, false), 1);
        }
    }

    private static void minus1IfNoChoiceHasIt() {
        SteinerNet none = new SteinerNet();
        markAll(none, 0);
        due("no line: including(6)", none.including(6), -1);
        due("no line: between(0, 6)", none.between(0, 6), -1);
        markAll(none, 6);
        due("no line: least()", none.least(), -1);
        due("no line: including(0)", none.including(0), -1);

        SteinerNet apart = noChoiceJoins();
        due("apart: least()", apart.least(), -1);
        due("apart: with(0)", apart.with(0), -1);
        due("apart: without(2)", apart.without(2), -1);
        due("apart: including(1)", apart.including(1), -1);
        due("apart: between(1, 2)", apart.between(1, 2), -1);

        // Many lines don't help where the one that is needed is missing.
        SteinerNet many = new SteinerNet();
        for (int k = 0; k < 10; k++) {
            put(many, k, k % 6, (k + 1) % 6, 1);
        }
        markAll(many, 0, 1, 2, 3, 4, 5, 6);
        due("ten lines, none to 6: least()", many.least(), -1);
        put(many, 9, 5, 6, 100);
        due("line 9 to 6: least()", many.least(), 105);
        due("line 9 to 6: without(9)", many.without(9), -1);
    }

    private static void aPointOutOfRangeIsRefused() {
        for (int p : WRONG_POINTS) {
            dueRefused("line(0, " + p + ", 6, 1)", n -> n.line(0, p, 6, 1));
            dueRefused("line(9, 0, " + p + ", 1)", n -> n.line(9, 0, p, 1));
            dueRefused("mark(" + p + ", true)", n -> n.mark(p, true));
            dueRefused("mark(" + p + ", false)", n -> n.mark(p, false));
            dueRefused("including(" + p + ")", n -> n.including(p));
            dueRefused("between(" + p + ", 6)", n -> n.between(p, 6));
            dueRefused("between(0, " + p + ")", n -> n.between(0, p));
        }
    }

    private static void aLineOutOfRangeIsRefused() {
        for (int k : WRONG_LINES) {
            dueRefused("line(" + k + ", 0, 6, 1)", n -> n.line(k, 0, 6, 1));
            dueRefused("cut(" + k + ")", n -> n.cut(k));
            dueRefused("chosen(" + k + ")", n -> n.chosen(k));
            dueRefused("with(" + k + ")", n -> n.with(k));
            dueRefused("without(" + k + ")", n -> n.without(k));
        }
    }

    private static void aLineNotThereIsRefused() {
        for (int k = 0; k < 10; k++) {
            int line = k;
            dueLineNotThere("never there", SteinerNet::new, k);
            dueLineNotThere("cut", () -> allLinesBut(line), k);
        }
        dueLineNotThere("never there", Checks::someLines, 6);
        dueLineNotThere("never there", Checks::someLines, 8);
        dueLineNotThere("cut", Checks::noChoiceJoins, 1);
        dueLineNotThere("never there", Checks::noChoiceJoins, 9);
        SteinerNet net = new SteinerNet();
        for (int k = 0; k < 10; k++) {
            // line is about any line, so one that is not there is right.
            put(net, k, 0, 6, 1);
        }
    }

    private static SteinerNet allLinesBut(int line) {
        SteinerNet net = allLinesAllMarked();
        due("cut(" + line + ")", net.cut(line), 0);
        return net;
    }

    private static void dueLineNotThere(String why, Supplier<SteinerNet> maker, int k) {
        dueRefusedFrom(maker, why + ": cut(" + k + ")", n -> n.cut(k));
        dueRefusedFrom(maker, why + ": chosen(" + k + ")", n -> n.chosen(k));
        dueRefusedFrom(maker, why + ": with(" + k + ")", n -> n.with(k));
        dueRefusedFrom(maker, why + ": without(" + k + ")", n -> n.without(k));
    }

    // The same run twice, once with refused calls of every kind between its calls.
    private static void answersMinus2() {
        SteinerNet plain = new SteinerNet();
        SteinerNet disturbed = new SteinerNet();
        for (int step = 0; step < 12; step++) {
            int k = step % 10;
            dueAllRefused(disturbed);
            put(plain, k, step % 7, (step + 3) % 7, 1 + step);
            put(disturbed, k, step % 7, (step + 3) % 7, 1 + step);
            dueAllRefused(disturbed);
            boolean on = step % 3 != 0;
            due("mark", disturbed.mark(step % 5, on), plain.mark(step % 5, on));
            due("least", disturbed.least(), plain.least());
            due("with", disturbed.with(k), plain.with(k));
            due("chosen", disturbed.chosen(k), plain.chosen(k));
        }
        dueAlike("after the run", disturbed, plain);
    }

    private static void dueAllRefused(SteinerNet net) {
        due("line(10, 0, 6, 1)", net.line(10, 0, 6, 1), -2);
        due("line(0, 7, 6, 1)", net.line(0, 7, 6, 1), -2);
        due("line(0, 0, -1, 1)", net.line(0, 0, -1, 1), -2);
        due("line(0, 4, 4, 1)", net.line(0, 4, 4, 1), -2);
        due("line(0, 0, 6, 101)", net.line(0, 0, 6, 101), -2);
        due("cut(-1)", net.cut(-1), -2);
        due("mark(7, true)", net.mark(7, true), -2);
        due("mark(-1, false)", net.mark(-1, false), -2);
        due("including(7)", net.including(7), -2);
    }
}
