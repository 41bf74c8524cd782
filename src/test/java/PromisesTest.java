// One method for each promise of the document: ordinary inputs, the edges that it names, and wrong inputs.
public final class PromisesTest extends Checks {
    public static void main(String[] args) {
        promise1NewObject();
        promise2Line();
        promise2LineReplaces();
        promise2LineRefuses();
        promise3Cut();
        promise3CutRefuses();
        promise4Mark();
        promise4MarkRefuses();
        promise5Least();
        promise5LeastJoinsAll();
        promise6Chosen();
        promise6ChosenTakesLeastNumber();
        promise6ChosenRefuses();
        promise7With();
        promise8Without();
        promise7And8Refuse();
        promise9Including();
        promise9IncludingRefuses();
        promise10Between();
        promise10BetweenRefuses();
        promise11RefusalComesFirst();
        objectsAreApart();
        longRun();
        end();
    }

    private static void promise1NewObject() {
        for (int line = 0; line < 10; line++) {
            due("new: chosen(" + line + ")", new SteinerNet().chosen(line), -2);
            due("new: with(" + line + ")", new SteinerNet().with(line), -2);
            due("new: without(" + line + ")", new SteinerNet().without(line), -2);
            due("new: cut(" + line + ")", new SteinerNet().cut(line), -2);
        }
        for (int point = 0; point < 7; point++) {
            due("new: mark(" + point + ", true)", new SteinerNet().mark(point, true), 0);
            due("new: mark(" + point + ", false)", new SteinerNet().mark(point, false), 0);
            due("new: including(" + point + ")", new SteinerNet().including(point), 0);
            for (int b = 0; b < 7; b++) {
                due("new: between(" + point + ", " + b + ")", new SteinerNet().between(point, b), point == b ? 0 : -1);
            }
        }
        due("new: least()", new SteinerNet().least(), 0);
    }

    private static void promise2Line() {
        for (int line = 0; line < 10; line++) {
            for (int a = 0; a < 7; a++) {
                for (int b = 0; b < 7; b++) {
                    if (a != b) {
                        lineJoinsJustItsEnds(line, a, b);
                    }
                }
            }
        }
        for (int price = 1; price <= 100; price++) {
            SteinerNet net = netOf(of(9, 6, 0, price));
            due("price " + price + ": with(9)", net.with(9), price);
            due("price " + price + ": between(0, 6)", net.between(0, 6), price);
        }
    }

    private static void lineJoinsJustItsEnds(int line, int a, int b) {
        String what = "line(" + line + ", " + a + ", " + b + ", 37)";
        SteinerNet net = netOf(of(line, a, b, 37));
        for (int other = 0; other < 10; other++) {
            due(what + ": with(" + other + ")", net.with(other), other == line ? 37 : -2);
        }
        for (int p = 0; p < 7; p++) {
            for (int q = 0; q < 7; q++) {
                boolean ends = p == a && q == b || p == b && q == a;
                due(what + ": between(" + p + ", " + q + ")", net.between(p, q), p == q ? 0 : ends ? 37 : -1);
            }
        }
    }

    private static void promise2LineReplaces() {
        SteinerNet net = netOf(of(4, 0, 1, 10), of(4, 2, 6, 30));
        due("replaced: between(0, 1)", net.between(0, 1), -1);
        due("replaced: between(1, 2)", net.between(1, 2), -1);
        due("replaced: between(2, 6)", net.between(2, 6), 30);
        due("replaced: with(4)", net.with(4), 30);
        due("dearer: line(4, 2, 6, 100)", net.line(4, 2, 6, 100), 0);
        due("dearer: between(2, 6)", net.between(2, 6), 100);
        due("cheaper: line(4, 6, 2, 1)", net.line(4, 6, 2, 1), 0);
        due("cheaper: between(2, 6)", net.between(2, 6), 1);
    }

    private static void promise2LineRefuses() {
        for (int line : WRONG_LINES) {
            dueRefused("line(" + line + ", 0, 1, 1)", n -> n.line(line, 0, 1, 1));
        }
        for (int point : WRONG_POINTS) {
            // Line 0 is there in the sample and line 8 is not: neither may be changed.
            dueRefused("line(0, " + point + ", 6, 1)", n -> n.line(0, point, 6, 1));
            dueRefused("line(0, 6, " + point + ", 1)", n -> n.line(0, 6, point, 1));
            dueRefused("line(8, " + point + ", 4, 1)", n -> n.line(8, point, 4, 1));
            dueRefused("line(8, 4, " + point + ", 1)", n -> n.line(8, 4, point, 1));
        }
        for (int point = 0; point < 7; point++) {
            int p = point;
            dueRefused("line(0, " + p + ", " + p + ", 1)", n -> n.line(0, p, p, 1));
            dueRefused("line(8, " + p + ", " + p + ", 1)", n -> n.line(8, p, p, 1));
        }
        for (int price : WRONG_PRICES) {
            dueRefused("line(0, 0, 6, " + price + ")", n -> n.line(0, 0, 6, price));
            dueRefused("line(8, 0, 4, " + price + ")", n -> n.line(8, 0, 4, price));
        }
    }

    private static void promise3Cut() {
        for (int line = 0; line < 10; line++) {
            SteinerNet net = new SteinerNet();
            for (int k = 0; k < 10; k++) {
                net.line(k, 0, 1, 10 + k);
            }
            due("cut(" + line + ")", net.cut(line), 0);
            for (int k = 0; k < 10; k++) {
                due("after cut(" + line + "): with(" + k + ")", net.with(k), k == line ? -2 : 10 + k);
            }
            due("after cut(" + line + "): between(0, 1)", net.between(0, 1), line == 0 ? 11 : 10);
            due("cut(" + line + ") again", net.cut(line), -2);
        }
        SteinerNet net = netOf(of(0, 0, 1, 8));
        markAll(net, 0, 1);
        due("before the cut: least()", net.least(), 8);
        due("cut(0)", net.cut(0), 0);
        due("after the cut: least()", net.least(), -1);
        due("after the cut: mark(0, true)", net.mark(0, true), 1);
        due("back: line(0, 1, 0, 3)", net.line(0, 1, 0, 3), 0);
        due("back: least()", net.least(), 3);
    }

    private static void promise3CutRefuses() {
        for (int line : WRONG_LINES) {
            dueRefused("cut(" + line + ")", n -> n.cut(line));
        }
        dueRefusedFrom(Checks::someLines, "cut(6), which is not there", n -> n.cut(6));
        dueRefusedFrom(Checks::someLines, "cut(8), which is not there", n -> n.cut(8));
    }

    private static void promise4Mark() {
        for (int point = 0; point < 7; point++) {
            SteinerNet net = new SteinerNet();
            due("mark(" + point + ", true)", net.mark(point, true), 0);
            due("mark(" + point + ", true) again", net.mark(point, true), 1);
            for (int other = 0; other < 7; other++) {
                due("with " + point + " marked: including(" + other + ")", net.including(other), other == point ? 0 : -1);
                if (other != point) {
                    due("with " + point + " marked: mark(" + other + ", false)", net.mark(other, false), 0);
                }
            }
            due("mark(" + point + ", false)", net.mark(point, false), 1);
            due("mark(" + point + ", false) again", net.mark(point, false), 0);
            due("mark(" + point + ", true) once more", net.mark(point, true), 0);
        }
    }

    private static void promise4MarkRefuses() {
        for (int point : WRONG_POINTS) {
            dueRefused("mark(" + point + ", true)", n -> n.mark(point, true));
            dueRefused("mark(" + point + ", false)", n -> n.mark(point, false));
        }
    }

    private static void promise5Least() {
        SteinerNet net = netOf(of(0, 0, 1, 4), of(1, 1, 2, 4), of(2, 0, 2, 4), of(3, 0, 3, 2), of(4, 1, 3, 2), of(5, 2, 3, 2));
        due("no marked point: least()", net.least(), 0);
        markAll(net, 0);
        due("one marked point: least()", net.least(), 0);
        markAll(net, 1);
        due("two marked points: least()", net.least(), 4);
        markAll(net, 2);
        due("over a point that is not marked: least()", net.least(), 6);
        markAll(net, 6);
        due("a point without lines: least()", net.least(), -1);
        due("mark(6, false)", net.mark(6, false), 1);
        due("that point no longer: least()", net.least(), 6);
        dueUnchanged("least()", n -> n.least());
    }

    private static void promise5LeastJoinsAll() {
        // The way runs against the lines' order, so that it takes as many rounds as it can.
        SteinerNet chain = netOf(of(9, 0, 1, 100), of(8, 1, 2, 100), of(7, 2, 3, 100), of(6, 3, 4, 100), of(5, 4, 5, 100), of(4, 5, 6, 100));
        markAll(chain, 0, 6);
        due("a chain of all points: least()", chain.least(), 600);
        due("cut(6)", chain.cut(6), 0);
        due("a broken chain: least()", chain.least(), -1);

        SteinerNet pairs = netOf(of(0, 0, 1, 1), of(1, 2, 3, 1));
        markAll(pairs, 0, 1, 2, 3);
        due("two pairs apart: least()", pairs.least(), -1);
        due("line(9, 1, 3, 100)", pairs.line(9, 1, 3, 100), 0);
        due("two pairs joined: least()", pairs.least(), 102);

        SteinerNet same = netOf(of(0, 0, 6, 100), of(1, 6, 0, 7), of(2, 0, 6, 9));
        markAll(same, 0, 6);
        due("several lines for two points: least()", same.least(), 7);
        SteinerNet all = netOf(of(0, 0, 6, 1), of(1, 1, 6, 2), of(2, 2, 6, 3), of(3, 3, 6, 4), of(4, 4, 6, 5), of(5, 5, 6, 6));
        markAll(all, 0, 1, 2, 3, 4, 5, 6);
        due("all points marked: least()", all.least(), 21);
    }

    private static void promise6Chosen() {
        SteinerNet net = netOf(of(0, 0, 1, 4), of(1, 1, 2, 4), of(2, 0, 2, 4), of(3, 0, 3, 2), of(4, 1, 3, 2), of(5, 2, 3, 2));
        dueChosen("no marked point", net, 0, 0, 0, 0, 0, 0, -2, -2, -2, -2);
        markAll(net, 1);
        dueChosen("one marked point", net, 0, 0, 0, 0, 0, 0, -2, -2, -2, -2);
        markAll(net, 0, 2);
        dueChosen("three marked points", net, 0, 0, 0, 1, 1, 1, -2, -2, -2, -2);
        markAll(net, 6);
        dueChosen("a point without lines", net, -1, -1, -1, -1, -1, -1, -2, -2, -2, -2);
        due("line(9, 6, 3, 100)", net.line(9, 6, 3, 100), 0);
        dueChosen("the last line needed", net, 0, 0, 0, 1, 1, 1, -2, -2, -2, 1);
        for (int line = 0; line < 10; line++) {
            int k = line;
            dueUnchanged("chosen(" + k + ")", n -> n.chosen(k));
        }
    }

    private static void promise6ChosenTakesLeastNumber() {
        SteinerNet same = netOf(of(3, 0, 1, 5), of(9, 0, 1, 5), of(0, 0, 1, 6));
        markAll(same, 0, 1);
        due("same price: chosen(3)", same.chosen(3), 1);
        due("same price: chosen(9)", same.chosen(9), 0);
        due("same price: chosen(0)", same.chosen(0), 0);

        // One line 4 (number 16) against lines 0 to 3 (number 15): the number counts, not how many lines.
        SteinerNet many = netOf(of(0, 0, 1, 1), of(1, 1, 2, 1), of(2, 2, 3, 1), of(3, 3, 6, 1), of(4, 0, 6, 4));
        markAll(many, 0, 6);
        dueChosen("four low lines against a high one", many, 1, 1, 1, 1, 0);

        // Lines 0 and 9 (number 513) against lines 7 and 8 (number 384): the highest line decides.
        SteinerNet high = netOf(of(0, 0, 1, 3), of(9, 1, 6, 3), of(7, 0, 2, 3), of(8, 2, 6, 3));
        markAll(high, 0, 6);
        due("highest line decides: chosen(0)", high.chosen(0), 0);
        due("highest line decides: chosen(7)", high.chosen(7), 1);
        due("highest line decides: chosen(8)", high.chosen(8), 1);
        due("highest line decides: chosen(9)", high.chosen(9), 0);
    }

    private static void promise6ChosenRefuses() {
        for (int line : WRONG_LINES) {
            dueRefused("chosen(" + line + ")", n -> n.chosen(line));
        }
        dueRefusedFrom(Checks::someLines, "chosen(6), which is not there", n -> n.chosen(6));
    }

    private static void promise7With() {
        SteinerNet net = netOf(of(0, 0, 1, 3), of(1, 2, 3, 100), of(9, 0, 1, 8));
        due("no marked point: with(1)", net.with(1), 100);
        markAll(net, 0);
        due("one marked point: with(9)", net.with(9), 8);
        markAll(net, 1);
        due("in the best choice: with(0)", net.with(0), 3);
        due("in place of another: with(9)", net.with(9), 8);
        due("apart from the others: with(1)", net.with(1), 103);
        markAll(net, 6);
        due("no choice: with(0)", net.with(0), -1);
        due("line(8, 6, 0, 1)", net.line(8, 6, 0, 1), 0);
        due("with more lines: with(9)", net.with(9), 9);
        dueUnchanged("with(9)", n -> n.with(9));

        SteinerNet round = netOf(of(0, 0, 1, 1), of(1, 1, 2, 1), of(2, 2, 0, 50));
        markAll(round, 0, 1, 2);
        due("a line of a ring: with(2)", round.with(2), 51);
    }

    private static void promise8Without() {
        SteinerNet net = netOf(of(0, 0, 1, 3), of(1, 2, 3, 100), of(9, 0, 1, 8));
        due("no marked point: without(0)", net.without(0), 0);
        markAll(net, 0, 1);
        due("the best line: without(0)", net.without(0), 8);
        due("another line: without(9)", net.without(9), 3);
        due("a line apart: without(1)", net.without(1), 3);
        due("line 0 is still there: chosen(0)", net.chosen(0), 1);
        due("cut(9)", net.cut(9), 0);
        due("the only line: without(0)", net.without(0), -1);
        due("the line cut: without(9)", net.without(9), -2);
        due("line 0 is there after all: least()", net.least(), 3);
        dueUnchanged("without(9)", n -> n.without(9));
    }

    private static void promise7And8Refuse() {
        for (int line : WRONG_LINES) {
            dueRefused("with(" + line + ")", n -> n.with(line));
            dueRefused("without(" + line + ")", n -> n.without(line));
        }
        dueRefusedFrom(Checks::someLines, "with(6), which is not there", n -> n.with(6));
        dueRefusedFrom(Checks::someLines, "without(6), which is not there", n -> n.without(6));

        SteinerNet none = netOf(of(1, 0, 1, 5));
        markAll(none, 0, 6);
        due("no choice and no such line: with(0)", none.with(0), -2);
        due("no choice and no such line: without(0)", none.without(0), -2);
        due("no choice: without(1)", none.without(1), -1);
    }

    private static void promise9Including() {
        SteinerNet net = netOf(of(0, 0, 1, 4), of(1, 1, 2, 4), of(2, 0, 2, 4), of(3, 0, 3, 2), of(4, 1, 3, 2), of(5, 2, 3, 2), of(9, 3, 6, 100));
        for (int point = 0; point < 7; point++) {
            due("no marked point: including(" + point + ")", net.including(point), 0);
        }
        markAll(net, 0);
        due("itself alone: including(0)", net.including(0), 0);
        due("one marked point: including(6)", net.including(6), 102);
        markAll(net, 1, 2);
        due("marked already: including(0)", net.including(0), 6);
        due("on the way: including(3)", net.including(3), 6);
        due("further on: including(6)", net.including(6), 106);
        due("a point without lines: including(4)", net.including(4), -1);
        due("not marked by it: least()", net.least(), 6);
        due("not marked by it: mark(6, true)", net.mark(6, true), 0);
        due("marked now: least()", net.least(), 106);
        due("marked now: including(6)", net.including(6), 106);
        markAll(net, 5);
        due("no choice: including(0)", net.including(0), -1);
        due("no choice: including(5)", net.including(5), -1);
        for (int point = 0; point < 7; point++) {
            int p = point;
            dueUnchanged("including(" + p + ")", n -> n.including(p));
        }
    }

    private static void promise9IncludingRefuses() {
        for (int point : WRONG_POINTS) {
            dueRefused("including(" + point + ")", n -> n.including(point));
        }
        SteinerNet none = new SteinerNet();
        markAll(none, 0, 6);
        due("no choice and no such point: including(7)", none.including(7), -2);
    }

    private static void promise10Between() {
        SteinerNet net = netOf(of(0, 0, 1, 10), of(1, 1, 6, 10), of(2, 0, 6, 21), of(3, 0, 6, 100), of(9, 2, 3, 1));
        due("over a third point: between(0, 6)", net.between(0, 6), 20);
        due("the other way: between(6, 0)", net.between(6, 0), 20);
        due("apart: between(0, 2)", net.between(0, 2), -1);
        due("no lines at all: between(4, 5)", net.between(4, 5), -1);
        for (int point = 0; point < 7; point++) {
            due("the same point: between(" + point + ", " + point + ")", net.between(point, point), 0);
        }
        markAll(net, 2, 4);
        due("marked points don't count: between(0, 6)", net.between(0, 6), 20);
        due("marked points don't count: between(3, 3)", net.between(3, 3), 0);
        due("marked points don't count: between(2, 3)", net.between(2, 3), 1);
        due("not marked by it: mark(0, true)", net.mark(0, true), 0);
        due("cut(1)", net.cut(1), 0);
        due("the direct line: between(0, 6)", net.between(0, 6), 21);
        dueUnchanged("between(1, 6)", n -> n.between(1, 6));
    }

    private static void promise10BetweenRefuses() {
        for (int point : WRONG_POINTS) {
            dueRefused("between(" + point + ", 0)", n -> n.between(point, 0));
            dueRefused("between(6, " + point + ")", n -> n.between(6, point));
            dueRefused("between(" + point + ", " + point + ")", n -> n.between(point, point));
        }
    }

    private static void promise11RefusalComesFirst() {
        SteinerNet net = netOf(of(0, 0, 1, 5));
        markAll(net, 0, 6);
        due("no choice: chosen(0)", net.chosen(0), -1);
        for (int line = 1; line < 10; line++) {
            due("no choice and no such line: chosen(" + line + ")", net.chosen(line), -2);
        }
        for (int line : WRONG_LINES) {
            due("no choice and no such line: chosen(" + line + ")", net.chosen(line), -2);
        }
    }

    private static void objectsAreApart() {
        SteinerNet one = netOf(of(0, 0, 1, 5));
        SteinerNet other = netOf(of(0, 0, 1, 9));
        markAll(one, 0, 1);
        due("the other object: least()", other.least(), 0);
        due("this object: least()", one.least(), 5);
        due("the other object: cut(0)", other.cut(0), 0);
        due("this object still: with(0)", one.with(0), 5);
    }

    private static void longRun() {
        SteinerNet net = new SteinerNet();
        for (int call = 0; call < 510; call += 3) {
            int price = 1 + call % 100;
            due("call " + call + ": line", net.line(call % 10, 0, 6, price), 0);
            due("call " + (call + 1) + ": with", net.with(call % 10), price);
            due("call " + (call + 2) + ": mark", net.mark(3, true), call == 0 ? 0 : 1);
        }
        due("call 511: including(3)", net.including(3), 0);
        due("call 512: including(0)", net.including(0), -1);
    }
}
