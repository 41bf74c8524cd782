import java.util.ArrayList;
import java.util.List;
import java.util.Set;
import java.util.TreeMap;
import java.util.TreeSet;

// Long runs of mixed calls, right and wrong ones, against a second reading of the document that shares no code.
public final class AgainstModelTest {
    private static final int RUNS = 120;
    private static final int CALLS = 512;
    private static final int[] ODD_NUMBERS = {-1, 7, 8, 9, 10, 11, 31, 32, 33, -32, 64, Integer.MIN_VALUE, Integer.MAX_VALUE};

    private static int wrong = 0;

    private record Line(int a, int b, int price) { }

    private record Choice(int price, int number, Set<Integer> lines) { }

    // The document's terms taken word by word: every choice is written down, then the property is looked for.
    private static final class Model {
        final TreeMap<Integer, Line> lines = new TreeMap<>();
        final TreeSet<Integer> marked = new TreeSet<>();

        List<Choice> choices() {
            List<Choice> all = new ArrayList<>();
            all.add(new Choice(0, 0, Set.of()));
            lines.forEach((number, line) -> {
                for (Choice c : List.copyOf(all)) {
                    Set<Integer> more = new TreeSet<>(c.lines);
                    more.add(number);
                    all.add(new Choice(c.price + line.price, c.number + (int) Math.pow(2, number), more));
                }
            });
            all.sort((x, y) -> x.price != y.price ? Integer.compare(x.price, y.price) : Integer.compare(x.number, y.number));
            return all;
        }

        boolean joins(Choice choice, Set<Integer> points) {
            int[] group = {0, 1, 2, 3, 4, 5, 6};
            for (int number : choice.lines) {
                int from = group[lines.get(number).a];
                int to = group[lines.get(number).b];
                for (int p = 0; p < group.length; p++) {
                    group[p] = group[p] == from ? to : group[p];
                }
            }
            return points.stream().map(p -> group[p]).distinct().count() <= 1;
        }

        Choice best(Set<Integer> points, int has, int lacks) {
            for (Choice c : choices()) {
                if ((has < 0 || c.lines.contains(has)) && !c.lines.contains(lacks) && joins(c, points)) {
                    return c;
                }
            }
            return null;
        }

        int leastPrice(Set<Integer> points, int has, int lacks) {
            Choice best = best(points, has, lacks);
            return best == null ? -1 : best.price;
        }

        static boolean point(int p) {
            return 0 <= p && p <= 6;
        }

        int line(int line, int a, int b, int price) {
            boolean right = 0 <= line && line <= 9 && point(a) && point(b) && a != b && 1 <= price && price <= 100;
            if (right) {
                lines.put(line, new Line(a, b, price));
            }
            return right ? 0 : -2;
        }

        int cut(int line) {
            return lines.remove(line) == null ? -2 : 0;
        }

        int mark(int point, boolean on) {
            if (!point(point)) {
                return -2;
            }
            boolean changed = on ? marked.add(point) : marked.remove(point);
            return changed == on ? 0 : 1;
        }

        int chosen(int line) {
            if (!lines.containsKey(line)) {
                return -2;
            }
            Choice best = best(marked, -1, -1);
            return best == null ? -1 : best.lines.contains(line) ? 1 : 0;
        }

        int with(int line) {
            return lines.containsKey(line) ? leastPrice(marked, line, -1) : -2;
        }

        int without(int line) {
            return lines.containsKey(line) ? leastPrice(marked, -1, line) : -2;
        }

        int including(int point) {
            if (!point(point)) {
                return -2;
            }
            Set<Integer> points = new TreeSet<>(marked);
            points.add(point);
            return leastPrice(points, -1, -1);
        }

        int between(int a, int b) {
            return point(a) && point(b) ? leastPrice(new TreeSet<>(List.of(a, b)), -1, -1) : -2;
        }
    }

    // The same numbers in each run of the test, so that a failure comes again.
    private long seed;

    private int below(int bound) {
        seed = seed * 6364136223846793005L + 1442695040888963407L;
        return (int) ((seed >>> 33) % bound);
    }

    private int mostly(int bound) {
        return below(25) == 0 ? ODD_NUMBERS[below(ODD_NUMBERS.length)] : below(bound);
    }

    public static void main(String[] args) {
        for (int run = 0; run < RUNS; run++) {
            new AgainstModelTest().play(run);
        }
        System.out.println(wrong == 0 ? "all answers are as due" : wrong + " answers are not as due");
        if (wrong != 0) {
            System.exit(1);
        }
    }

    private void play(int run) {
        seed = run;
        // Few different prices make many choices of the same price.
        int greatestPrice = new int[] {1, 2, 4, 10, 100}[run % 5];
        // Runs with many cuts stay small; the others fill up to ten lines.
        int cutsIn100 = run % 2 == 0 ? 2 : 8;
        SteinerNet net = new SteinerNet();
        Model model = new Model();
        for (int call = 0; call < CALLS && wrong < 20; call++) {
            step(run, call, net, model, greatestPrice, cutsIn100);
        }
    }

    private void step(int run, int call, SteinerNet net, Model model, int greatestPrice, int cutsIn100) {
        int kind = below(100);
        int line = mostly(10);
        int a = mostly(7);
        int b = mostly(7);
        int price = below(25) == 0 ? below(140) - 20 : 1 + below(greatestPrice);
        boolean on = below(5) < 3;
        String at = "run " + run + ", call " + call + ": ";
        if (kind < 20) {
            due(at + "line(" + line + ", " + a + ", " + b + ", " + price + ")", net.line(line, a, b, price), model.line(line, a, b, price));
        } else if (kind < 20 + cutsIn100) {
            due(at + "cut(" + line + ")", net.cut(line), model.cut(line));
        } else if (kind < 40) {
            due(at + "mark(" + a + ", " + on + ")", net.mark(a, on), model.mark(a, on));
        } else if (kind < 45) {
            due(at + "least()", net.least(), model.leastPrice(model.marked, -1, -1));
        } else if (kind < 65) {
            due(at + "chosen(" + line + ")", net.chosen(line), model.chosen(line));
        } else if (kind < 75) {
            due(at + "with(" + line + ")", net.with(line), model.with(line));
        } else if (kind < 85) {
            due(at + "without(" + line + ")", net.without(line), model.without(line));
        } else if (kind < 93) {
            due(at + "including(" + a + ")", net.including(a), model.including(a));
        } else {
            due(at + "between(" + a + ", " + b + ")", net.between(a, b), model.between(a, b));
        }
    }

    private static void due(String what, int got, int want) {
        if (got != want) {
            wrong++;
            System.out.println(what + " answered " + got + ", due is " + want);
        }
    }
}
