import java.util.function.Consumer;

/**
 * For each argument of each call: the smallest and the greatest one that is taken, with the answers
 * that are due and what is seen then; the first one beyond each, and far ones, are refused and
 * change nothing.
 */
public final class ArgumentsTest {
    /** A call, or a look, with one argument that is tried. */
    private interface Made {
        int on(ColourPatches mesh, int argument);
    }

    private static final Consumer<ColourPatches> NOTHING = mesh -> { };

    public static void main(String[] args) {
        promise2();
        promise3();
        promise4();
        promise5();
        promise6();
        promise7();
        promise8();
        promise9();
        promise10();
        promise11();
        promise12();
        promise13();
        promise14();
        promise15();
        promise20();
        promise22();
        Check.end();
    }

    private static void promise2() {
        argument("promise 2, hold, column", (m, a) -> m.hold(a, 2, 1, 2, 3)).smallest(0, 0).greatest(4, 0)
                .sees((m, a) -> m.cornerOf(a, 2, 4), 3, 3).run();
        argument("promise 2, hold, row", (m, a) -> m.hold(3, a, 1, 2, 3)).smallest(0, 0).greatest(3, 0)
                .sees((m, a) -> m.cornerOf(3, a, 4), 3, 3).run();
        argument("promise 2, hold, one", (m, a) -> m.hold(2, 0, a, 2, 3)).smallest(0, 1).greatest(255, 1)
                .sees((m, a) -> m.cornerOf(2, 0, 2), 0, 255).run();
        argument("promise 2, hold, two", (m, a) -> m.hold(2, 0, 1, a, 3)).smallest(0, 1).greatest(255, 1)
                .sees((m, a) -> m.cornerOf(2, 0, 3), 0, 255).run();
        argument("promise 2, hold, three", (m, a) -> m.hold(2, 0, 1, 2, a)).smallest(0, 1).greatest(255, 1)
                .sees((m, a) -> m.cornerOf(2, 0, 4), 0, 255).run();
    }

    private static void promise3() {
        argument("promise 3, free, column", (m, a) -> m.free(a, 1)).behind(mesh -> Look.holdAll(mesh, 1, 2, 3))
                .smallest(0, 19).greatest(4, 19).sees((m, a) -> m.cornerOf(a, 1, 5), 0, 0).run();
        argument("promise 3, free, row", (m, a) -> m.free(2, a)).behind(mesh -> Look.holdAll(mesh, 1, 2, 3))
                .smallest(0, 19).greatest(3, 19).sees((m, a) -> m.cornerOf(2, a, 5), 0, 0).run();
    }

    /** Corner (0, 0) at 999, 0 or at 0, 999 folds patch 0. */
    private static void promise4() {
        argument("promise 4, move, column", (m, a) -> m.move(a, 1, 200 * a + 1, 201)).smallest(0, 0).greatest(4, 0)
                .sees((m, a) -> m.cornerOf(a, 1, 0), 1, 801).run();
        argument("promise 4, move, row", (m, a) -> m.move(1, a, 201, 200 * a + 1)).smallest(0, 0).greatest(3, 0)
                .sees((m, a) -> m.cornerOf(1, a, 1), 1, 601).run();
        argument("promise 4, move, x", (m, a) -> m.move(0, 0, a, 0)).smallest(0, 0).greatest(999, 1)
                .sees((m, a) -> m.cornerOf(0, 0, 0), 0, 999).run();
        argument("promise 4, move, y", (m, a) -> m.move(0, 0, 0, a)).smallest(0, 0).greatest(999, 1)
                .sees((m, a) -> m.cornerOf(0, 0, 1), 0, 999).run();
    }

    private static void promise5() {
        argument("promise 5, slope, column", (m, a) -> m.slope(a, 2, 0, 0, 9)).smallest(0, 0).greatest(4, 0)
                .sees((m, a) -> m.cornerOf(a, 2, 6), 9, 9).run();
        argument("promise 5, slope, row", (m, a) -> m.slope(3, a, 1, 2, 9)).smallest(0, 0).greatest(3, 0)
                .sees((m, a) -> m.cornerOf(3, a, 11), 9, 9).run();
        argument("promise 5, slope, along", (m, a) -> m.slope(1, 2, a, 1, 9)).smallest(0, 0).greatest(1, 0)
                .sees((m, a) -> m.cornerOf(1, 2, 7 + 3 * a), 9, 9).run();
        argument("promise 5, slope, part", (m, a) -> m.slope(1, 2, 0, a, 9)).smallest(0, 0).greatest(2, 0)
                .sees((m, a) -> m.cornerOf(1, 2, 6 + a), 9, 9).run();
        argument("promise 5, slope, slope", (m, a) -> m.slope(1, 2, 0, 0, a)).smallest(-255, 0).greatest(255, 0)
                .sees((m, a) -> m.cornerOf(1, 2, 6), -255, 255).run();
    }

    private static void promise6() {
        Consumer<ColourPatches> everySlope = mesh -> {
            for (int corner = 0; corner < 20; corner++) {
                mesh.slope(corner % 5, corner / 5, 1, 2, 4);
            }
        };
        argument("promise 6, loose, column", (m, a) -> m.loose(a, 1)).behind(everySlope).smallest(0, 1).greatest(4, 1)
                .sees((m, a) -> m.cornerOf(a, 1, 12), 0, 0).run();
        argument("promise 6, loose, row", (m, a) -> m.loose(2, a)).behind(everySlope).smallest(0, 1).greatest(3, 1)
                .sees((m, a) -> m.cornerOf(2, a, 12), 0, 0).run();
    }

    /** Colours as on a board of two, none of them held, change places in each round. */
    private static void promise7() {
        Consumer<ColourPatches> board = mesh -> {
            for (int corner = 0; corner < 20; corner++) {
                int value = (corner % 5 + corner / 5) % 2 == 0 ? 0 : 200;
                mesh.hold(corner % 5, corner / 5, value, value, value);
            }
            Look.freeAll(mesh);
        };
        argument("promise 7, spread, rounds", (m, a) -> m.spread(a)).behind(board).smallest(1, 20).greatest(20, 20)
                .sees((m, a) -> m.cornerOf(0, 0, 2), 200, 0).run();
    }

    private static void promise8() {
        argument("promise 8, cornerOf, column", (m, a) -> m.cornerOf(a, 1, 2)).smallest(0, 10).greatest(4, 40).run();
        argument("promise 8, cornerOf, row", (m, a) -> m.cornerOf(2, a, 3)).smallest(0, 80).greatest(3, 110).run();
        argument("promise 8, cornerOf, what", (m, a) -> m.cornerOf(4, 1, a)).smallest(0, 800).greatest(12, 1).run();
    }

    private static void promise9() {
        argument("promise 9, point, patch", (m, a) -> m.point(a, 0, 0, 3)).smallest(0, 0).greatest(11, 600).run();
        argument("promise 9, point, u", (m, a) -> m.point(11, a, 0, 3)).smallest(0, 600).greatest(8, 800).run();
        argument("promise 9, point, v", (m, a) -> m.point(11, 8, a, 4)).smallest(0, 400).greatest(8, 700).run();
        argument("promise 9, point, what", (m, a) -> m.point(11, 0, 0, a)).smallest(0, 128).greatest(4, 400).run();
    }

    /** The corners of patch 11 are at 600, 400, at 800, 400, at 900, 700 and at 600, 600. */
    private static void promise10() {
        argument("promise 10, patchOf, patch", (m, a) -> m.patchOf(a, 5)).smallest(0, 80000).greatest(11, 120000).run();
        argument("promise 10, patchOf, what", (m, a) -> m.patchOf(11, a)).smallest(0, 0).greatest(5, 120000).run();
    }

    private static void promise11() {
        argument("promise 11, count, what", (m, a) -> m.count(a)).smallest(0, 4).greatest(6, 5).run();
    }

    private static void promise12() {
        argument("promise 12, agrees, patch, side 0", (m, a) -> m.agrees(a, 0)).smallest(0, 1)
                .greatest(11, Check.NOT_FOUND).run();
        argument("promise 12, agrees, patch, side 1", (m, a) -> m.agrees(a, 1)).smallest(0, 1)
                .greatest(11, Check.NOT_FOUND).run();
        argument("promise 12, agrees, side", (m, a) -> m.agrees(0, a)).smallest(0, 1).greatest(1, 1).run();
    }

    /**
     * Part 0 along row 0 is 128, 128, 70 with slopes 0, -29, 0: at 7 of patch 0 it is 130, at the
     * edge 128, at 1 of patch 1 it is 122. Along column 0 it is 128, 10, 128 with slopes -118, 0,
     * 59: 13, 10, 14. Along row 1 it is 10, 128, 128 with slopes 5 (told), 59, 0: 117, 128, 133. Part 2 along
     * row 0 is 128, 128, 90 with slopes 0, -19, 7 (told): 129, 128, 124.
     */
    private static void promise13() {
        argument("promise 13, crease, patch, side 0", (m, a) -> m.crease(a, 0, 0, 0)).smallest(0, 4)
                .greatest(11, Check.NOT_FOUND).run();
        argument("promise 13, crease, patch, side 1", (m, a) -> m.crease(a, 1, 0, 0)).smallest(0, 7)
                .greatest(11, Check.NOT_FOUND).run();
        argument("promise 13, crease, side", (m, a) -> m.crease(0, a, 0, 0)).smallest(0, 4).greatest(1, 7).run();
        argument("promise 13, crease, at", (m, a) -> m.crease(0, 0, a, 0)).smallest(0, 4).greatest(8, 6).run();
        argument("promise 13, crease, part", (m, a) -> m.crease(0, 0, 0, a)).smallest(0, 4).greatest(2, 3).run();
    }

    private static void promise14() {
        argument("promise 14, level, patch", (m, a) -> m.level(a, 1, 0, 255)).smallest(0, 81).greatest(11, 81).run();
        argument("promise 14, level, part", (m, a) -> m.level(0, a, 0, 255)).smallest(0, 81).greatest(2, 81).run();
        argument("promise 14, level, low", (m, a) -> m.level(0, 0, a, 255)).smallest(Integer.MIN_VALUE, 81)
                .greatest(Integer.MAX_VALUE, 0).run();
        argument("promise 14, level, high", (m, a) -> m.level(0, 0, 0, a)).smallest(Integer.MIN_VALUE, 0)
                .greatest(Integer.MAX_VALUE, 81).run();
    }

    /** The last corner of row 0 is at 800, 0, the first corner of row 3 at 0, 600. */
    private static void promise15() {
        argument("promise 15, nearest, x", (m, a) -> m.nearest(a, 0, 3)).smallest(0, 0).greatest(999, 199 * 199).run();
        argument("promise 15, nearest, y", (m, a) -> m.nearest(0, a, 3)).smallest(0, 0).greatest(999, 399 * 399).run();
        argument("promise 15, nearest, what", (m, a) -> m.nearest(999, 0, a)).smallest(0, 3).greatest(3, 199 * 199).run();
    }

    private static void promise20() {
        argument("promise 20, type, character", (m, a) -> m.type(a)).smallest(32, 5).greatest(126, 5)
                .sees((m, a) -> m.count(4), 5, 5).run();
    }

    private static void promise22() {
        argument("promise 22, fault, what", (m, a) -> m.fault(a)).behind(mesh -> Look.write(mesh, "c00:102030;f11;"))
                .smallest(0, 11).greatest(2, Check.NOT_POSSIBLE).run();
        argument("promise 22, fault, what, no text", (m, a) -> m.fault(a)).behind(NOTHING)
                .smallest(0, Check.NOT_FOUND).greatest(2, Check.NOT_FOUND).run();
    }

    private static Argument argument(String name, Made call) {
        return new Argument(name, call);
    }

    private static final class Argument {
        private final String name;
        private final Made call;
        private Consumer<ColourPatches> ahead = Look::fill;
        private Made seen = (mesh, argument) -> 0;
        private int smallest;
        private int greatest;
        private int dueOfSmallest;
        private int dueOfGreatest;
        private int seenOfSmallest;
        private int seenOfGreatest;

        Argument(String name, Made call) {
            this.name = name;
            this.call = call;
        }

        Argument behind(Consumer<ColourPatches> calls) {
            ahead = calls;
            return this;
        }

        Argument smallest(int argument, int due) {
            smallest = argument;
            dueOfSmallest = due;
            return this;
        }

        Argument greatest(int argument, int due) {
            greatest = argument;
            dueOfGreatest = due;
            return this;
        }

        /** What a look behind the call answers, for the smallest and for the greatest one. */
        Argument sees(Made look, int ofSmallest, int ofGreatest) {
            seen = look;
            seenOfSmallest = ofSmallest;
            seenOfGreatest = ofGreatest;
            return this;
        }

        void run() {
            taken("the smallest", smallest, dueOfSmallest, seenOfSmallest);
            taken("the greatest", greatest, dueOfGreatest, seenOfGreatest);
            between();
            if (smallest > Integer.MIN_VALUE) {
                refused("the first one below the smallest", smallest - 1);
                refused("the least number", Integer.MIN_VALUE);
                refused("far below", -1000000);
            }
            if (greatest < Integer.MAX_VALUE) {
                refused("the first one above the greatest", greatest + 1);
                refused("the greatest number", Integer.MAX_VALUE);
                refused("far above", 1000000);
            }
        }

        private void taken(String which, int argument, int due, int dueSeen) {
            Check.begin(name + " " + argument + ", " + which + ", is taken");
            ColourPatches mesh = Look.behind(ahead);
            Check.due("the call", call.on(mesh, argument), due);
            Check.due("the look behind it", seen.on(mesh, argument), dueSeen);
        }

        private void between() {
            for (long argument = smallest; argument <= greatest; argument += Math.max(1, ((long) greatest - smallest) / 1000)) {
                Check.begin(name + " " + argument + ", between, is taken");
                int answer = call.on(Look.behind(ahead), (int) argument);
                Check.that("the call answered " + answer, answer != Check.INVALID);
            }
        }

        private void refused(String which, int argument) {
            Check.begin(name + " " + argument + ", " + which + ", is refused");
            Check.due("the call", call.on(Look.behind(ahead), argument), Check.INVALID);
            Check.due("the call on a new object", call.on(new ColourPatches(), argument), Check.INVALID);
            Look.changesNothing("behind the refused call", ahead, mesh -> call.on(mesh, argument));
            Look.changesNothing("behind the refused call, half filled", Look::fillHalf, mesh -> call.on(mesh, argument));
        }
    }
}
