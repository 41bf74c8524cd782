import java.util.ArrayList;
import java.util.List;
import java.util.function.Supplier;

// What the tests share; they extend it to use its names. It is no test itself, so it stands outside src/test/java.
abstract class Checks {
    static final int POINTS = 7;
    static final int LINES = 10;

    // Too small and too large by one, by some, and by far; also numbers whose low bits look like a right one.
    static final int[] WRONG_POINTS = {-1, 7, -2, 8, 9, -6, 31, 32, 33, -32, 64, 256, 65536, 1 << 30,
        Integer.MIN_VALUE, Integer.MIN_VALUE + 1, Integer.MAX_VALUE - 1, Integer.MAX_VALUE};
    static final int[] WRONG_LINES = {-1, 10, -2, 11, -9, 16, 31, 32, 33, -32, 64, 256, 65536, 1 << 30,
        Integer.MIN_VALUE, Integer.MIN_VALUE + 1, Integer.MAX_VALUE - 1, Integer.MAX_VALUE};
    static final int[] WRONG_PRICES = {0, 101, -1, 102, -100, 128, 257, 65537, 1 << 30,
        Integer.MIN_VALUE, Integer.MIN_VALUE + 1, Integer.MAX_VALUE - 1, Integer.MAX_VALUE};

    interface Call {
        int on(SteinerNet net);
    }

    // A state from which a refused call is made, and the answers that are due after it.
    private record State(String name, Supplier<SteinerNet> maker, String laterAnswers) { }

    private static final List<State> STATES = new ArrayList<>();
    private static String sentence = "";
    private static int wrong = 0;

    static {
        addState("a new object", SteinerNet::new);
        addState("some lines", Checks::someLines);
        addState("ten lines, seven marked points", Checks::allLinesAllMarked);
        addState("no choice joins", Checks::noChoiceJoins);
    }

    private static void addState(String name, Supplier<SteinerNet> maker) {
        STATES.add(new State(name, maker, laterAnswers(maker.get())));
    }

    /** Runs the test of one sentence of the document; what fails in it is told under the sentence. */
    static void sentence(String where, String words, Runnable test) {
        sentence = where + " \"" + words + "\": ";
        try {
            test.run();
        } catch (RuntimeException thrown) {
            // No call may throw; caught here, so that the sentences after this one are still tested.
            wrong++;
            System.out.println(sentence + "a call threw " + thrown);
        }
        sentence = "";
    }

    static void end() {
        System.out.println(wrong == 0 ? "all answers are as due" : wrong + " answers are not as due");
        if (wrong != 0) {
            System.exit(1);
        }
    }

    static void due(String what, int got, int want) {
        if (got != want) {
            wrong++;
            System.out.println(sentence + what + " answered " + got + ", due is " + want);
        }
    }

    private static void dueSame(String what, String got, String want) {
        if (!got.equals(want)) {
            wrong++;
            System.out.println(sentence + what + ": answers are [" + got + "], due are [" + want + "]");
        }
    }

    static int[] of(int line, int a, int b, int price) {
        return new int[] {line, a, b, price};
    }

    static void put(SteinerNet net, int line, int a, int b, int price) {
        due("line(" + line + ", " + a + ", " + b + ", " + price + ")", net.line(line, a, b, price), 0);
    }

    static SteinerNet netOf(int[]... lines) {
        SteinerNet net = new SteinerNet();
        for (int[] l : lines) {
            put(net, l[0], l[1], l[2], l[3]);
        }
        return net;
    }

    static void markAll(SteinerNet net, int... points) {
        for (int point : points) {
            due("mark(" + point + ", true)", net.mark(point, true), 0);
        }
    }

    static void dueChosen(String what, SteinerNet net, int... answers) {
        for (int line = 0; line < answers.length; line++) {
            due(what + ": chosen(" + line + ")", net.chosen(line), answers[line]);
        }
    }

    // Lines 6 and 8 are not there, the point 4 has no line, and the points 0, 2 and 6 are marked.
    static SteinerNet someLines() {
        SteinerNet net = netOf(of(0, 0, 1, 4), of(1, 1, 2, 4), of(2, 0, 2, 5), of(3, 0, 3, 2), of(4, 1, 3, 1),
                of(5, 2, 3, 3), of(7, 5, 6, 100), of(9, 3, 6, 7));
        markAll(net, 0, 2, 6);
        return net;
    }

    static SteinerNet allLinesAllMarked() {
        SteinerNet net = netOf(of(0, 0, 1, 10), of(1, 1, 2, 20), of(2, 2, 3, 30), of(3, 3, 4, 40), of(4, 4, 5, 50),
                of(5, 5, 6, 60), of(6, 6, 0, 70), of(7, 0, 3, 80), of(8, 3, 0, 90), of(9, 1, 5, 100));
        markAll(net, 0, 1, 2, 3, 4, 5, 6);
        return net;
    }

    // Line 1 was there and is cut, lines 3 to 9 never were there.
    static SteinerNet noChoiceJoins() {
        SteinerNet net = netOf(of(0, 0, 1, 3), of(1, 1, 2, 1), of(2, 2, 3, 2));
        due("cut(1)", net.cut(1), 0);
        markAll(net, 0, 3);
        return net;
    }

    /** The answers to everything that can be asked; the marks are put back as they were. */
    static String everything(SteinerNet net) {
        StringBuilder all = new StringBuilder();
        all.append("least ").append(net.least());
        for (int line = 0; line < LINES; line++) {
            all.append("; line ").append(line).append(": ").append(net.chosen(line));
            all.append(' ').append(net.with(line)).append(' ').append(net.without(line));
        }
        for (int a = 0; a < POINTS; a++) {
            all.append("; point ").append(a).append(": ").append(net.including(a));
            for (int b = 0; b < POINTS; b++) {
                all.append(' ').append(net.between(a, b));
            }
        }
        for (int point = 0; point < POINTS; point++) {
            int marked = net.mark(point, true);
            net.mark(point, marked == 1);
            all.append(" m").append(marked);
        }
        return all.toString();
    }

    // Some 230 calls, so that with what comes before them an object stays under its 512.
    private static String laterAnswers(SteinerNet net) {
        StringBuilder all = new StringBuilder(everything(net));
        for (int line = 0; line < LINES; line++) {
            all.append("; cut ").append(net.cut(line)).append(", least ").append(net.least());
        }
        for (int line = 0; line < LINES; line++) {
            all.append("; line ").append(net.line(line, line % POINTS, (line + 1 + line / POINTS) % POINTS, line + 1));
        }
        return all.append("; then ").append(everything(net)).toString();
    }

    /** The call is refused in every state, and each later call answers as if it had not been made. */
    static void dueRefused(String what, Call call) {
        for (State state : STATES) {
            SteinerNet net = state.maker.get();
            due(what + " with " + state.name, call.on(net), -2);
            dueSame("after " + what + " with " + state.name, laterAnswers(net), state.laterAnswers);
        }
    }

    /** As dueRefused, from one state: for calls that are right in other states. */
    static void dueRefusedFrom(Supplier<SteinerNet> maker, String what, Call call) {
        SteinerNet net = maker.get();
        due(what, call.on(net), -2);
        dueSame("after " + what, laterAnswers(net), laterAnswers(maker.get()));
    }

    /** The call is a question: each later call answers as if it had not been made. */
    static void dueUnchanged(String what, Call call) {
        for (State state : STATES) {
            SteinerNet net = state.maker.get();
            call.on(net);
            dueSame("after " + what + " with " + state.name, laterAnswers(net), state.laterAnswers);
        }
    }

    /** Both objects answer everything alike, now and after the same changes. */
    static void dueAlike(String what, SteinerNet net, SteinerNet other) {
        dueSame(what, laterAnswers(net), laterAnswers(other));
    }
}
