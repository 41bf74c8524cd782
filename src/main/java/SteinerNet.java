/** A small network of lines with prices, some of whose points have to be joined at the least price. */
public final class SteinerNet {
    private static final int POINTS = 7;
    private static final int LINES = 10;
    private static final int CHOICES = 1 << LINES;
    private static final int GREATEST_PRICE = 100;

    private static final int DONE = 0;
    private static final int NO_CHOICE = -1;
    private static final int REFUSED = -2;

    // Sets of points and sets of lines are held as bits, so that a set of lines is its choice's number.
    private int linesThere;
    private int markedPoints;
    private final int[] endsOfLine = new int[LINES];
    private final int[] priceOfLine = new int[LINES];

    public SteinerNet() {
        linesThere = 0;
        markedPoints = 0;
    }

    public int line(int line, int a, int b, int price) {
        if (!isLineNumber(line) || !isPoint(a) || !isPoint(b)) {
            return REFUSED;
        }
        if (a == b || price < 1 || price > GREATEST_PRICE) {
            return REFUSED;
        }
        endsOfLine[line] = (1 << a) | (1 << b);
        priceOfLine[line] = price;
        linesThere |= 1 << line;
        return DONE;
    }

    public int cut(int line) {
        if (!isLineThere(line)) {
            return REFUSED;
        }
        linesThere &= ~(1 << line);
        return DONE;
    }

    public int mark(int point, boolean on) {
        if (!isPoint(point)) {
            return REFUSED;
        }
        int before = (markedPoints >> point) & 1;
        if (on) {
            markedPoints |= 1 << point;
        } else {
            markedPoints &= ~(1 << point);
        }
        return before;
    }

    public int least() {
        return leastPrice(markedPoints, 0, linesThere);
    }

    public int chosen(int line) {
        if (!isLineThere(line)) {
            return REFUSED;
        }
        int best = bestChoice(markedPoints, 0, linesThere);
        if (best == NO_CHOICE) {
            return NO_CHOICE;
        }
        return (best >> line) & 1;
    }

    public int with(int line) {
        if (!isLineThere(line)) {
            return REFUSED;
        }
        return leastPrice(markedPoints, 1 << line, linesThere);
    }

    public int without(int line) {
        if (!isLineThere(line)) {
            return REFUSED;
        }
        return leastPrice(markedPoints, 0, linesThere & ~(1 << line));
    }

    public int including(int point) {
        if (!isPoint(point)) {
            return REFUSED;
        }
        return leastPrice(markedPoints | (1 << point), 0, linesThere);
    }

    public int between(int a, int b) {
        if (!isPoint(a) || !isPoint(b)) {
            return REFUSED;
        }
        return leastPrice((1 << a) | (1 << b), 0, linesThere);
    }

    private static boolean isPoint(int point) {
        return point >= 0 && point < POINTS;
    }

    private static boolean isLineNumber(int line) {
        return line >= 0 && line < LINES;
    }

    private boolean isLineThere(int line) {
        return isLineNumber(line) && ((linesThere >> line) & 1) == 1;
    }

    private int leastPrice(int points, int needed, int allowed) {
        int best = bestChoice(points, needed, allowed);
        if (best == NO_CHOICE) {
            return NO_CHOICE;
        }
        return priceOfChoice(best);
    }

    /** The cheapest choice that joins the points, has every needed line and has only allowed ones. */
    private int bestChoice(int points, int needed, int allowed) {
        int best = NO_CHOICE;
        int bestPrice = 0;
        // The numbers rise and only a lower price wins, so of equal prices the least number stays.
        for (int choice = 0; choice < CHOICES; choice++) {
            if ((choice & needed) != needed || (choice & ~allowed) != 0) {
                continue;
            }
            int price = priceOfChoice(choice);
            if ((best == NO_CHOICE || price < bestPrice) && joins(choice, points)) {
                best = choice;
                bestPrice = price;
            }
        }
        return best;
    }

    private int priceOfChoice(int choice) {
        int sum = 0;
        for (int line = 0; line < LINES; line++) {
            if (((choice >> line) & 1) == 1) {
                sum += priceOfLine[line];
            }
        }
        return sum;
    }

    private boolean joins(int choice, int points) {
        int reached = points & -points;
        // Until all that can be reached is reached, each round reaches a new point: POINTS - 1 rounds are enough.
        for (int round = 1; round < POINTS; round++) {
            reached = reachedOverLines(choice, reached);
        }
        return (points & ~reached) == 0;
    }

    private int reachedOverLines(int choice, int from) {
        int reached = from;
        for (int line = 0; line < LINES; line++) {
            boolean inChoice = ((choice >> line) & 1) == 1;
            if (inChoice && (reached & endsOfLine[line]) != 0) {
                reached |= endsOfLine[line];
            }
        }
        return reached;
    }
}
