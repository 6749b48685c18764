/** Promises 1 to 7: a new object, hold, free, move, slope, loose, spread. */
public final class CornersTest {
    public static void main(String[] args) {
        newObject();
        hold();
        free();
        move();
        slope();
        loose();
        spread();
        spreadRounds();
        noChangeByErrors();
        Check.end();
    }

    private static void newObject() {
        ColourPatches mesh = new ColourPatches();
        for (int row = 0; row < 4; row++) {
            for (int column = 0; column < 5; column++) {
                Check.due("x of a new corner", mesh.cornerOf(column, row, 0), 200 * column);
                Check.due("y of a new corner", mesh.cornerOf(column, row, 1), 200 * row);
                for (int what = 2; what <= 4; what++) {
                    Check.due("colour of a new corner", mesh.cornerOf(column, row, what), 128);
                }
                for (int what = 5; what <= 12; what++) {
                    Check.due("held, slopes of a new corner", mesh.cornerOf(column, row, what), 0);
                }
            }
        }
        for (int what = 0; what <= 5; what++) {
            Check.due("count(" + what + ") of a new object", mesh.count(what), 0);
        }
        Check.due("unlike colours of a new object", mesh.count(6), 1);
        Check.due("undo() of a new object", mesh.undo(), Check.NOT_POSSIBLE);
        Check.due("restore() of a new object", mesh.restore(), Check.NOT_POSSIBLE);
        Check.due("fault(0) of a new object", mesh.fault(0), Check.NOT_FOUND);
    }

    private static void hold() {
        ColourPatches mesh = new ColourPatches();
        Check.due("hold", mesh.hold(4, 3, 0, 128, 255), 0);
        Check.due("held", mesh.cornerOf(4, 3, 5), 1);
        Check.due("part 0", mesh.cornerOf(4, 3, 2), 0);
        Check.due("part 1", mesh.cornerOf(4, 3, 3), 128);
        Check.due("part 2", mesh.cornerOf(4, 3, 4), 255);
        Check.due("hold again", mesh.hold(4, 3, 1, 2, 3), 1);
        Check.due("part 2 then", mesh.cornerOf(4, 3, 4), 3);
        Check.due("held corners", mesh.count(0), 1);
        Check.due("hold beside", mesh.hold(0, 0, 255, 255, 255), 0);
        Check.due("held corners then", mesh.count(0), 2);
        Check.due("states", mesh.count(3), 3);
        Check.due("column 5", mesh.hold(5, 0, 1, 1, 1), Check.INVALID);
        Check.due("column -1", mesh.hold(-1, 1, 1, 1, 1), Check.INVALID);
        Check.due("row 4", mesh.hold(0, 4, 1, 1, 1), Check.INVALID);
        Check.due("row -1", mesh.hold(0, -1, 1, 1, 1), Check.INVALID);
        Check.due("one 256", mesh.hold(0, 0, 256, 1, 1), Check.INVALID);
        Check.due("one -1", mesh.hold(0, 0, -1, 1, 1), Check.INVALID);
        Check.due("two 256", mesh.hold(0, 0, 1, 256, 1), Check.INVALID);
        Check.due("two -1", mesh.hold(0, 0, 1, -1, 1), Check.INVALID);
        Check.due("three 256", mesh.hold(0, 0, 1, 1, 256), Check.INVALID);
        Check.due("three -1", mesh.hold(0, 0, 1, 1, -1), Check.INVALID);
        for (int far : Check.FAR) {
            Check.due("far column", mesh.hold(far, 0, 1, 1, 1), Check.INVALID);
            Check.due("far row", mesh.hold(0, far, 1, 1, 1), Check.INVALID);
            Check.due("far part", mesh.hold(0, 0, far, 1, 1), Check.INVALID);
        }
        Check.due("states behind errors", mesh.count(3), 3);
    }

    private static void free() {
        ColourPatches mesh = new ColourPatches();
        Check.due("free, not held", mesh.free(2, 1), Check.NOT_POSSIBLE);
        mesh.hold(2, 1, 9, 8, 7);
        mesh.hold(3, 1, 9, 8, 7);
        Check.due("free", mesh.free(2, 1), 1);
        Check.due("no more held", mesh.cornerOf(2, 1, 5), 0);
        Check.due("its colour stays", mesh.cornerOf(2, 1, 2), 9);
        Check.due("its colour stays", mesh.cornerOf(2, 1, 4), 7);
        Check.due("free again", mesh.free(2, 1), Check.NOT_POSSIBLE);
        Check.due("free the other one", mesh.free(3, 1), 0);
        Check.due("states", mesh.count(3), 4);
        Check.due("free(5, 0)", mesh.free(5, 0), Check.INVALID);
        Check.due("free(0, 4)", mesh.free(0, 4), Check.INVALID);
        Check.due("free(-1, 0)", mesh.free(-1, 0), Check.INVALID);
        Check.due("free(0, -1)", mesh.free(0, -1), Check.INVALID);
        for (int far : Check.FAR) {
            Check.due("far column", mesh.free(far, 0), Check.INVALID);
            Check.due("far row", mesh.free(0, far), Check.INVALID);
        }
    }

    private static void move() {
        ColourPatches mesh = new ColourPatches();
        // Pushed onto the line between its neighbours the turn is 0, which is folded.
        Check.due("on the line", mesh.move(0, 0, 100, 100), 1);
        Check.due("just outside of it", mesh.move(0, 0, 100, 99), 0);
        Check.due("x", mesh.cornerOf(0, 0, 0), 100);
        Check.due("y", mesh.cornerOf(0, 0, 1), 99);
        // Far over the last corner: patch 0 is only stretched, the other three patches of it are folded.
        Check.due("at 999, 999", mesh.move(1, 1, 999, 999), 3);
        Check.due("back", mesh.move(1, 1, 200, 200), 0);
        Check.due("to 0, 0", mesh.move(4, 3, 0, 0), 1);
        Check.due("x 1000", mesh.move(0, 0, 1000, 0), Check.INVALID);
        Check.due("x -1", mesh.move(0, 0, -1, 0), Check.INVALID);
        Check.due("y 1000", mesh.move(0, 0, 0, 1000), Check.INVALID);
        Check.due("y -1", mesh.move(0, 0, 0, -1), Check.INVALID);
        Check.due("column 5", mesh.move(5, 0, 0, 0), Check.INVALID);
        Check.due("row 4", mesh.move(0, 4, 0, 0), Check.INVALID);
        for (int far : Check.FAR) {
            Check.due("far column", mesh.move(far, 0, 1, 1), Check.INVALID);
            Check.due("far row", mesh.move(0, far, 1, 1), Check.INVALID);
            Check.due("far x", mesh.move(0, 0, far, 1), Check.INVALID);
            Check.due("far y", mesh.move(0, 0, 1, far), Check.INVALID);
        }
        Check.due("place behind errors", mesh.cornerOf(0, 0, 0), 100);
    }

    private static void slope() {
        ColourPatches mesh = new ColourPatches();
        mesh.hold(1, 1, 255, 0, 100);
        mesh.hold(3, 1, 0, 255, 101);
        // Half of 0 - 255, rounded down, is -128; half of 255 - 0 is 127; half of 1 is 0.
        Check.due("not told, part 0", mesh.cornerOf(2, 1, 6), -128);
        Check.due("not told, part 1", mesh.cornerOf(2, 1, 7), 127);
        Check.due("not told, part 2", mesh.cornerOf(2, 1, 8), 0);
        // Ends: the whole difference to the one beside.
        Check.due("lower end", mesh.cornerOf(0, 1, 6), 127);
        Check.due("greater end", mesh.cornerOf(4, 1, 6), 128);
        Check.due("lower end by rows", mesh.cornerOf(1, 0, 9), 127);
        Check.due("inside by rows", mesh.cornerOf(1, 2, 9), -64);
        mesh.hold(1, 3, 0, 0, 0);
        Check.due("greater end by rows", mesh.cornerOf(1, 3, 9), -128);
        Check.due("half rounded down by rows", mesh.cornerOf(1, 2, 9), -128);

        Check.due("slope", mesh.slope(2, 1, 0, 0, 255), -128);
        Check.due("what it is", mesh.cornerOf(2, 1, 6), 255);
        Check.due("slope again", mesh.slope(2, 1, 0, 0, -255), 255);
        Check.due("slope along the column", mesh.slope(2, 1, 1, 2, 0), 0);
        Check.due("told to 0 is told", mesh.cornerOf(2, 1, 12), 2);
        Check.due("told slopes", mesh.count(2), 2);
        mesh.hold(2, 0, 255, 255, 255);
        Check.due("a told one stays", mesh.cornerOf(2, 1, 11), 0);
        Check.due("one not told does not", mesh.cornerOf(2, 1, 10), -64);

        Check.due("slope 256", mesh.slope(0, 0, 0, 0, 256), Check.INVALID);
        Check.due("slope -256", mesh.slope(0, 0, 0, 0, -256), Check.INVALID);
        Check.due("along 2", mesh.slope(0, 0, 2, 0, 1), Check.INVALID);
        Check.due("along -1", mesh.slope(0, 0, -1, 0, 1), Check.INVALID);
        Check.due("part 3", mesh.slope(0, 0, 0, 3, 1), Check.INVALID);
        Check.due("part -1", mesh.slope(0, 0, 0, -1, 1), Check.INVALID);
        Check.due("column 5", mesh.slope(5, 0, 0, 0, 1), Check.INVALID);
        Check.due("row 4", mesh.slope(0, 4, 0, 0, 1), Check.INVALID);
        for (int far : Check.FAR) {
            Check.due("far column", mesh.slope(far, 0, 0, 0, 1), Check.INVALID);
            Check.due("far row", mesh.slope(0, far, 0, 0, 1), Check.INVALID);
            Check.due("far along", mesh.slope(0, 0, far, 0, 1), Check.INVALID);
            Check.due("far part", mesh.slope(0, 0, 0, far, 1), Check.INVALID);
            Check.due("far slope", mesh.slope(0, 0, 0, 0, far), Check.INVALID);
        }
        Check.due("told slopes behind errors", mesh.count(2), 2);
    }

    private static void loose() {
        ColourPatches mesh = new ColourPatches();
        Check.due("loose, none told", mesh.loose(3, 3), Check.NOT_POSSIBLE);
        for (int along = 0; along <= 1; along++) {
            for (int part = 0; part <= 2; part++) {
                mesh.slope(3, 3, along, part, 10 + part);
            }
        }
        mesh.slope(2, 3, 0, 0, 5);
        Check.due("told", mesh.cornerOf(3, 3, 12), 6);
        Check.due("loose", mesh.loose(3, 3), 6);
        Check.due("told then", mesh.cornerOf(3, 3, 12), 0);
        Check.due("slope then", mesh.cornerOf(3, 3, 11), 0);
        Check.due("that of another corner stays", mesh.cornerOf(2, 3, 6), 5);
        Check.due("told in all", mesh.count(2), 1);
        Check.due("loose again", mesh.loose(3, 3), Check.NOT_POSSIBLE);
        Check.due("undo", mesh.undo(), 3);
        Check.due("told again", mesh.cornerOf(3, 3, 12), 6);
        Check.due("loose(5, 0)", mesh.loose(5, 0), Check.INVALID);
        Check.due("loose(0, 4)", mesh.loose(0, 4), Check.INVALID);
        Check.due("loose(-1, 0)", mesh.loose(-1, 0), Check.INVALID);
        for (int far : Check.FAR) {
            Check.due("far column", mesh.loose(far, 0), Check.INVALID);
            Check.due("far row", mesh.loose(0, far), Check.INVALID);
        }
    }

    private static void spread() {
        ColourPatches mesh = new ColourPatches();
        Check.due("spread an even mesh", mesh.spread(20), 0);
        Check.due("it is a change all the same", mesh.count(3), 1);
        mesh.hold(2, 1, 0, 128, 255);
        // (2, 1) has four corners beside, of which (2, 0) has three and the others have four.
        Check.due("spread", mesh.spread(1), 4);
        Check.due("held stays", mesh.cornerOf(2, 1, 2), 0);
        Check.due("(128 + 128 + 0) / 3", mesh.cornerOf(2, 0, 2), 85);
        Check.due("(128 + 128 + 128 + 0) / 4", mesh.cornerOf(1, 1, 2), 96);
        Check.due("part 1", mesh.cornerOf(1, 1, 3), 128);
        Check.due("(128 * 3 + 255) / 4, rounded down", mesh.cornerOf(3, 1, 4), 159);
        Check.due("not beside", mesh.cornerOf(0, 0, 2), 128);
        // A corner of two: the second round reaches (0, 1) by (1, 1) and (1, 0) by both.
        mesh.spread(1);
        Check.due("(128 + 128 + 96) / 3", mesh.cornerOf(0, 1, 2), 117);
        Check.due("(128 + 85 + 96) / 3", mesh.cornerOf(1, 0, 2), 103);
        Check.due("spread(0)", mesh.spread(0), Check.INVALID);
        Check.due("spread(21)", mesh.spread(21), Check.INVALID);
        Check.due("spread(-1)", mesh.spread(-1), Check.INVALID);
        for (int far : Check.FAR) {
            Check.due("far rounds", mesh.spread(far), Check.INVALID);
        }
    }

    /** Several rounds are those rounds one by one; the answer is that of the last one. */
    private static void spreadRounds() {
        for (int rounds = 1; rounds <= 20; rounds++) {
            ColourPatches together = new ColourPatches();
            ColourPatches single = new ColourPatches();
            together.hold(0, 0, 255, 0, 128);
            single.hold(0, 0, 255, 0, 128);
            together.hold(4, 3, 0, 255, 128);
            single.hold(4, 3, 0, 255, 128);
            int last = 0;
            for (int round = 0; round < rounds; round++) {
                last = single.spread(1);
            }
            Check.due("spread(" + rounds + ")", together.spread(rounds), last);
            Check.same("spread(" + rounds + ")", Check.state(together), Check.state(single));
            Check.due("one change", together.count(3), 3);
        }
    }

    private static void noChangeByErrors() {
        ColourPatches mesh = new ColourPatches();
        mesh.hold(1, 1, 1, 2, 3);
        mesh.slope(1, 1, 0, 0, 7);
        String before = Check.state(mesh);
        mesh.hold(1, 1, 1, 2, 256);
        mesh.free(0, 0);
        mesh.move(1, 1, 5, 1000);
        mesh.slope(1, 1, 0, 0, 256);
        mesh.loose(0, 0);
        mesh.spread(21);
        mesh.restore();
        Check.same("errors", Check.state(mesh), before);
        Check.due("states", mesh.count(3), 2);
    }
}
