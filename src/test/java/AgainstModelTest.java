import java.util.ArrayList;
import java.util.List;
import java.util.Map;
import java.util.Set;
import java.util.TreeMap;
import java.util.TreeSet;

// Long runs of mixed calls, right and wrong ones, against a second reading of the document that shares no code.
public final class AgainstModelTest {
    private static final int RUNS = 120;
    private static final int CALLS = 512;
    private static final int[] ODD_NUMBERS = {-1, 7, 8, 9, 10, 11, 31, 32, 33, -32, 64, Integer.MIN_VALUE, Integer.MAX_VALUE};

    // What each method can answer, where 'price' stands for any answer above 0; the runs have to meet all of it.
    private static final Map<String, Set<String>> ANSWERS = Map.of(
            "line", Set.of("0", "-2"), "cut", Set.of("0", "-2"), "mark", Set.of("0", "1", "-2"),
            "least", Set.of("price", "0", "-1"), "chosen", Set.of("0", "1", "-1", "-2"),
            "with", Set.of("price", "-1", "-2", "-2 never put in", "-2 cut"),
            "without", Set.of("price", "0", "-1", "-2", "-2 never put in", "-2 cut"),
            "including", Set.of("price", "0", "-1", "-2"), "between", Set.of("price", "0", "-1", "-2"));

    private static final Map<String, Set<String>> MET = new TreeMap<>();
    private static int wrong = 0;

    private record Line(int a, int b, int price) { }

    private record Choice(int price, int number, Set<Integer> lines) { }

    // The document's terms taken word by word: every choice is written down, then the property is looked for.
    private static final class Model {
        final TreeMap<Integer, Line> lines = new TreeMap<>();
        final TreeSet<Integer> marked = new TreeSet<>();
        // Not needed for an answer: it tells a line that was cut from one that was never put in.
        final TreeSet<Integer> everThere = new TreeSet<>();

        List<Choice> choices() {
            List<Choice> all = new ArrayList<>();
            all.add(new Choice(0, 0, Set.of()));
            lines.forEach((number, line) -> {
                for (Choice c : List.copyOf(all)) {
                    Set<Integer> more = new TreeSet<>(c.lines);
                    more.add(number);
                    all.add(new Choice(c.price + line.price, c.number + (int) Math.pow(2, number), more));
                }
            });
            all.sort((x, y) -> x.price != y.price ? Integer.compare(x.price, y.price) : Integer.compare(x.number, y.number));
            return all;
        }

        boolean joins(Choice choice, Set<Integer> points) {
            int[] group = {0, 1, 2, 3, 4, 5, 6};
            for (int number : choice.lines) {
                int from = group[lines.get(number).a];
                int to = group[lines.get(number).b];
                for (int p = 0; p < group.length; p++) {
                    group[p] = group[p] == from ? to : group[p];
                }
            }
            return points.stream().map(p -> group[p]).distinct().count() <= 1;
        }

        Choice best(Set<Integer> points, int has, int lacks) {
            for (Choice c : choices()) {
                if ((has < 0 || c.lines.contains(has)) && !c.lines.contains(lacks) && joins(c, points)) {
                    return c;
                }
            }
            return null;
        }

        int leastPrice(Set<Integer> points, int has, int lacks) {
            Choice best = best(points, has, lacks);
            return best == null ? -1 : best.price;
        }

        static boolean point(int p) {
            return 0 <= p && p <= 6;
        }

        int line(int line, int a, int b, int price) {
            boolean right = 0 <= line && line <= 9 && point(a) && point(b) && a != b && 1 <= price && price <= 100;
            if (right) {
                lines.put(line, new Line(a, b, price));
                everThere.add(line);
            }
            return right ? 0 : -2;
        }

        int cut(int line) {
            return lines.remove(line) == null ? -2 : 0;
        }

        int mark(int point, boolean on) {
            if (!point(point)) {
                return -2;
            }
            boolean changed = on ? marked.add(point) : marked.remove(point);
            return changed == on ? 0 : 1;
        }

        int chosen(int line) {
            if (!lines.containsKey(line)) {
                return -2;
            }
            Choice best = best(marked, -1, -1);
            return best == null ? -1 : best.lines.contains(line) ? 1 : 0;
        }

        int with(int line) {
            return lines.containsKey(line) ? leastPrice(marked, line, -1) : -2;
        }

        int without(int line) {
            return lines.containsKey(line) ? leastPrice(marked, -1, line) : -2;
        }

        int including(int point) {
            if (!point(point)) {
                return -2;
            }
            Set<Integer> points = new TreeSet<>(marked);
            points.add(point);
            return leastPrice(points, -1, -1);
        }

        int between(int a, int b) {
            return point(a) && point(b) ? leastPrice(new TreeSet<>(List.of(a, b)), -1, -1) : -2;
        }
    }

    // The same numbers in each run of the test, so that a failure comes again.
    private long seed;
    private final int run;
    private int call = 0;
    private final SteinerNet net = new SteinerNet();
    private final Model model = new Model();
    private final Set<String> methodsCalled = new TreeSet<>();

    private AgainstModelTest(int run) {
        this.run = run;
        seed = run;
    }

    private int below(int bound) {
        seed = seed * 6364136223846793005L + 1442695040888963407L;
        return (int) ((seed >>> 33) % bound);
    }

    private int mostly(int bound) {
        return below(25) == 0 ? ODD_NUMBERS[below(ODD_NUMBERS.length)] : below(bound);
    }

    public static void main(String[] args) {
        for (int run = 0; run < RUNS; run++) {
            new AgainstModelTest(run).play();
        }
        if (wrong == 0) {
            checkAllIsMet();
        }
        System.out.println(wrong == 0 ? "all answers are as due" : wrong + " answers are not as due");
        if (wrong != 0) {
            System.exit(1);
        }
    }

    private void play() {
        // Few different prices make many choices of the same price.
        int greatestPrice = new int[] {1, 2, 4, 10, 100}[run % 5];
        // Runs with many cuts stay small; the others fill up to ten lines.
        int cutsIn100 = run % 2 == 0 ? 2 : 8;
        while (call < CALLS && wrong < 20) {
            call++;
            step(greatestPrice, cutsIn100);
        }
        if (wrong == 0 && !methodsCalled.equals(ANSWERS.keySet())) {
            wrong++;
            System.out.println("run " + run + " mixes only " + methodsCalled);
        }
    }

    private void step(int greatestPrice, int cutsIn100) {
        int kind = below(100);
        int line = mostly(10);
        int a = mostly(7);
        int b = mostly(7);
        int price = below(25) == 0 ? below(140) - 20 : 1 + below(greatestPrice);
        boolean on = below(5) < 3;
        if (kind < 20) {
            due("line", List.of(line, a, b, price), net.line(line, a, b, price), model.line(line, a, b, price));
        } else if (kind < 20 + cutsIn100) {
            due("cut", List.of(line), net.cut(line), model.cut(line));
        } else if (kind < 40) {
            due("mark", List.of(a, on), net.mark(a, on), model.mark(a, on));
        } else if (kind < 45) {
            due("least", List.of(), net.least(), model.leastPrice(model.marked, -1, -1));
        } else if (kind < 65) {
            due("chosen", List.of(line), net.chosen(line), model.chosen(line));
        } else if (kind < 75) {
            due("with", List.of(line), net.with(line), model.with(line));
            meetLineNotThere("with", line);
        } else if (kind < 85) {
            due("without", List.of(line), net.without(line), model.without(line));
            meetLineNotThere("without", line);
        } else if (kind < 93) {
            due("including", List.of(a), net.including(a), model.including(a));
        } else {
            due("between", List.of(a, b), net.between(a, b), model.between(a, b));
        }
    }

    private void due(String method, List<?> arguments, int got, int want) {
        methodsCalled.add(method);
        boolean isPrice = want > 0 && ANSWERS.get(method).contains("price");
        meet(method, isPrice ? "price" : String.valueOf(want));
        if (got != want) {
            wrong++;
            String told = method + arguments.toString().replace('[', '(').replace(']', ')');
            System.out.println("run " + run + ", call " + call + ": " + told + " answered " + got + ", due is " + want);
        }
    }

    private void meetLineNotThere(String method, int line) {
        if (0 <= line && line <= 9 && !model.lines.containsKey(line)) {
            meet(method, model.everThere.contains(line) ? "-2 cut" : "-2 never put in");
        }
    }

    private static void meet(String method, String answer) {
        MET.computeIfAbsent(method, m -> new TreeSet<>()).add(answer);
    }

    // Runs that never meet an answer would pass without having tested it.
    private static void checkAllIsMet() {
        ANSWERS.forEach((method, answers) -> {
            if (!answers.equals(MET.get(method))) {
                wrong++;
                System.out.println("the runs meet only " + MET.get(method) + " of " + method);
            }
        });
    }
}
