/** What the tests share: rows that are due, and the end of a test. */
final class Check {
    static final int INVALID = -1001;
    static final int NOT_POSSIBLE = -1002;
    static final int LIMIT = -1003;
    static final int NOT_FOUND = -1004;

    /** Arguments far out of every range. */
    static final int[] FAR = {Integer.MIN_VALUE, Integer.MIN_VALUE + 1, -1000000, 1000000, Integer.MAX_VALUE - 1,
        Integer.MAX_VALUE};

    private static int wrong = 0;
    private static int rows = 0;

    private Check() {
    }

    static void due(String call, long got, long want) {
        rows++;
        if (got != want) {
            wrong++;
            System.out.println(call + " answered " + got + ", due is " + want);
        }
    }

    static void that(String what, boolean holds) {
        due(what, holds ? 1 : 0, 1);
    }

    /** Types a text; each character must be taken. */
    static void write(ColourPatches mesh, String text) {
        for (int at = 0; at < text.length(); at++) {
            due("type(" + (int) text.charAt(at) + ")", mesh.type(text.charAt(at)), mesh.count(4));
        }
    }

    /** Puts another text in place of the one that was. */
    static void rewrite(ColourPatches mesh, String text) {
        mesh.clearText();
        write(mesh, text);
        due("count(4) behind " + text, mesh.count(4), text.length());
    }

    /** All that cornerOf tells of all corners, to compare states by. */
    static String state(ColourPatches mesh) {
        StringBuilder told = new StringBuilder();
        for (int row = 0; row < 4; row++) {
            for (int column = 0; column < 5; column++) {
                for (int what = 0; what <= 12; what++) {
                    told.append(mesh.cornerOf(column, row, what)).append(' ');
                }
            }
        }
        return told.toString();
    }

    static void same(String what, String got, String want) {
        that(what + ": the state is another one", got.equals(want));
    }

    static void end() {
        System.out.println(wrong == 0 ? rows + " rows are as due" : wrong + " of " + rows + " rows are not as due");
        if (wrong != 0) {
            System.exit(1);
        }
    }
}
