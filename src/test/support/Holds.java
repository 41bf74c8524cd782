// What the tests share that look at the class or a text from outside; they extend it to use its names.
abstract class Holds {
    private static int wrong = 0;

    static void check(boolean holds, String what) {
        if (!holds) {
            wrong++;
            System.out.println("does not hold: " + what);
        }
    }

    static void end() {
        System.out.println(wrong == 0 ? "all holds" : wrong + " things do not hold");
        if (wrong != 0) {
            System.exit(1);
        }
    }
}
