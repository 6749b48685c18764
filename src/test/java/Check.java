/** What the tests share: rows that are due, the case they belong to, and the end of a test. */
final class Check {
    static final int INVALID = -1001;
    static final int NOT_POSSIBLE = -1002;
    static final int LIMIT = -1003;
    static final int NOT_FOUND = -1004;

    /** Arguments far out of every range. */
    static final int[] FAR = {Integer.MIN_VALUE, Integer.MIN_VALUE + 1, -1000000, 1000000, Integer.MAX_VALUE - 1,
        Integer.MAX_VALUE};

    private static String current = "";
    private static int wrong = 0;
    private static int rows = 0;

    private Check() {
    }

    /** Names the case that the next rows belong to. */
    static void begin(String name) {
        current = name;
    }

    static void due(String call, long got, long want) {
        rows++;
        if (got != want) {
            wrong++;
            System.out.println(current + ": " + call + " answered " + got + ", due is " + want);
        }
    }

    static void due(long got, long want) {
        due("row " + rows, got, want);
    }

    static void that(String what, boolean holds) {
        due(what, holds ? 1 : 0, 1);
    }

    static void same(String what, String got, String want) {
        rows++;
        if (!got.equals(want)) {
            wrong++;
            System.out.println(current + ": " + what + " is\n  " + got + ", due is\n  " + want);
        }
    }

    static void end() {
        System.out.println(wrong == 0 ? rows + " rows are as due" : wrong + " of " + rows + " rows are not as due");
        if (wrong != 0) {
            System.exit(1);
        }
    }
}
