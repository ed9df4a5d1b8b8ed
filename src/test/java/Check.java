/** What a test says of an answer that is not the one that is due, and how it ends. */
final class Check {
    private static int wrong = 0;

    private Check() {
    }

    static void wrong(String what) {
        wrong++;
        System.out.println(what);
    }

    static void due(String what, int got, int due) {
        if (got != due) {
            wrong(what + ": answered " + got + ", due is " + due);
        }
    }

    static void due(String what, boolean got, boolean due) {
        due(what, got ? 1 : 0, due ? 1 : 0);
    }

    /** The numbers 0 .. due.length - 1 are given to the call, one after the other. */
    static void dueRow(String what, java.util.function.IntUnaryOperator call, int... due) {
        for (int i = 0; i < due.length; i++) {
            due(what + " " + i, call.applyAsInt(i), due[i]);
        }
    }

    static void finish() {
        System.out.println(wrong == 0 ? "all answers are as due" : wrong + " answers are not as due");
        if (wrong != 0) {
            System.exit(1);
        }
    }
}
