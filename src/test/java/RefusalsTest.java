import java.util.function.Consumer;
import java.util.function.ToIntFunction;

/**
 * Calls that are refused: each answers its error code and changes nothing, neither the corners nor
 * the history, the snapshot or the text; and of several codes the one is due that goes ahead.
 */
public final class RefusalsTest {
    private static final String FULL = "c00:000000;c10:000000;c20:000000;c30:000000;f00;f10;f20;f30;";

    public static void main(String[] args) throws IllegalAccessException {
        Cases.run(RefusalsTest.class, args);
    }

    /** The call is refused so behind the calls ahead of it, again if it comes again, and changes nothing. */
    private static void refused(int code, Consumer<ColourPatches> ahead, ToIntFunction<ColourPatches> call) {
        ColourPatches mesh = Look.behind(ahead);
        Check.due("the call", call.applyAsInt(mesh), code);
        Check.due("the call again", call.applyAsInt(mesh), code);
        Look.changesNothing("behind it", ahead, other -> call.applyAsInt(other));
    }

    private static Consumer<ColourPatches> filledWith(String text) {
        return mesh -> {
            Look.fill(mesh);
            Look.rewrite(mesh, text);
        };
    }

    private static Consumer<ColourPatches> halfFilledWith(String text) {
        return mesh -> {
            Look.fillHalf(mesh);
            Look.rewrite(mesh, text);
        };
    }

    private static void nothing(ColourPatches mesh) {
    }

    // ---- NOT_POSSIBLE

    static void promise03FreeNotHeldChangesNothing() {
        refused(Check.NOT_POSSIBLE, RefusalsTest::nothing, mesh -> mesh.free(0, 0));
        refused(Check.NOT_POSSIBLE, Look::fill, mesh -> mesh.free(1, 1));
        refused(Check.NOT_POSSIBLE, Look::fillHalf, mesh -> mesh.free(2, 2));
    }

    static void promise06LooseWithNoneToldChangesNothing() {
        refused(Check.NOT_POSSIBLE, RefusalsTest::nothing, mesh -> mesh.loose(4, 3));
        refused(Check.NOT_POSSIBLE, Look::fill, mesh -> mesh.loose(1, 1));
        refused(Check.NOT_POSSIBLE, Look::fillHalf, mesh -> mesh.loose(2, 2));
    }

    static void promise18RestoreWithoutSnapshotChangesNothing() {
        refused(Check.NOT_POSSIBLE, RefusalsTest::nothing, ColourPatches::restore);
        refused(Check.NOT_POSSIBLE, mesh -> Look.holdAll(mesh, 3, 2, 1), ColourPatches::restore);
        refused(Check.NOT_POSSIBLE, mesh -> mesh.hold(1, 1, 3, 2, 1), ColourPatches::restore);
    }

    static void promise19UndoWithEmptyHistoryChangesNothing() {
        refused(Check.NOT_POSSIBLE, RefusalsTest::nothing, ColourPatches::undo);
        refused(Check.NOT_POSSIBLE, mesh -> {
            Look.fill(mesh);
            for (int at = 0; at < 4; at++) {
                mesh.undo();
            }
        }, ColourPatches::undo);
    }

    static void promise23PlayNotOfTheFormChangesNothing() {
        refused(Check.NOT_POSSIBLE, filledWith("c00:010203;m11:5,5;f0"), ColourPatches::play);
        refused(Check.NOT_POSSIBLE, halfFilledWith("c00:010203;m11:5,5;?"), ColourPatches::play);
        refused(Check.NOT_POSSIBLE, mesh -> Look.write(mesh, "c00:010203;m11:5,5"), ColourPatches::play);
    }

    static void promise23PlayWithACommandThatCannotBeDoneChangesNothing() {
        refused(Check.NOT_POSSIBLE, filledWith("c00:010203;m11:5,5;f11;"), ColourPatches::play);
        refused(Check.NOT_POSSIBLE, halfFilledWith("f12;c00:010203;m51:5,5;f00;"), ColourPatches::play);
        refused(Check.NOT_POSSIBLE, mesh -> Look.write(mesh, "c00:010203;f00;f00;"), ColourPatches::play);
    }

    // ---- LIMIT_REACHED

    static void promise20TypeAboveSixtyChangesNothing() {
        refused(Check.LIMIT, mesh -> Look.write(mesh, FULL), mesh -> mesh.type(';'));
        refused(Check.LIMIT, filledWith(FULL), mesh -> mesh.type(32));
        refused(Check.LIMIT, halfFilledWith(FULL), mesh -> mesh.type(126));
    }

    // ---- NOT_FOUND

    static void promise12AgreesWithoutAPatchBesideChangesNothing() {
        refused(Check.NOT_FOUND, Look::fill, mesh -> mesh.agrees(7, 0));
        refused(Check.NOT_FOUND, Look::fillHalf, mesh -> mesh.agrees(9, 1));
    }

    static void promise13CreaseWithoutAPatchBesideChangesNothing() {
        refused(Check.NOT_FOUND, Look::fill, mesh -> mesh.crease(7, 0, 0, 0));
        refused(Check.NOT_FOUND, Look::fillHalf, mesh -> mesh.crease(9, 1, 8, 2));
    }

    static void promise16CalmThatIsNotFoundChangesNothing() {
        Consumer<ColourPatches> board = mesh -> {
            for (int corner = 0; corner < 20; corner++) {
                mesh.hold(corner % 5, corner / 5, (corner % 5 + corner / 5) % 2 * 90, 0, 0);
            }
            Look.freeAll(mesh);
            mesh.keep();
            mesh.move(0, 0, 3, 4);
        };
        refused(Check.NOT_FOUND, board, ColourPatches::calm);
    }

    static void promise22FaultThatIsNotFoundChangesNothing() {
        for (int what = 0; what <= 2; what++) {
            int asked = what;
            refused(Check.NOT_FOUND, filledWith(""), mesh -> mesh.fault(asked));
            refused(Check.NOT_FOUND, filledWith("c00:010203;m11:5,5;f00;"), mesh -> mesh.fault(asked));
            refused(Check.NOT_FOUND, halfFilledWith("f12;"), mesh -> mesh.fault(asked));
        }
        refused(Check.NOT_FOUND, halfFilledWith("c00:010203;m11:5,5;x"), mesh -> mesh.fault(2));
    }

    // ---- INVALID_ARGUMENT ahead of NOT_POSSIBLE

    static void promise03FreeOutOfRangeAheadOfNotHeld() {
        for (int far : new int[] {-1, 5, 100, -100}) {
            refused(Check.INVALID, RefusalsTest::nothing, mesh -> mesh.free(far, 0));
            refused(Check.INVALID, Look::fill, mesh -> mesh.free(far, 3));
        }
        for (int far : new int[] {-1, 4, 100, -100}) {
            refused(Check.INVALID, RefusalsTest::nothing, mesh -> mesh.free(0, far));
            refused(Check.INVALID, Look::fill, mesh -> mesh.free(4, far));
        }
    }

    static void promise06LooseOutOfRangeAheadOfNoneTold() {
        for (int far : new int[] {-1, 5, 100, -100}) {
            refused(Check.INVALID, RefusalsTest::nothing, mesh -> mesh.loose(far, 0));
            refused(Check.INVALID, Look::fill, mesh -> mesh.loose(far, 3));
        }
        for (int far : new int[] {-1, 4, 100, -100}) {
            refused(Check.INVALID, RefusalsTest::nothing, mesh -> mesh.loose(0, far));
            refused(Check.INVALID, Look::fill, mesh -> mesh.loose(4, far));
        }
    }

    static void promise22CauseOfFreeOutOfRangeAheadOfNotHeld() {
        for (String text : new String[] {"f50;", "f04;", "f99;"}) {
            ColourPatches mesh = Look.behind(filledWith(text));
            Check.due("fault(2) of " + text, mesh.fault(2), Check.INVALID);
        }
    }

    // ---- INVALID_ARGUMENT ahead of LIMIT_REACHED

    static void promise20TypeOutOfRangeAheadOfFullText() {
        for (int character : new int[] {31, 127, -1, 0, 10, 255, Integer.MIN_VALUE, Integer.MAX_VALUE, 65536 + 99}) {
            refused(Check.INVALID, filledWith(FULL), mesh -> mesh.type(character));
        }
    }

    // ---- INVALID_ARGUMENT ahead of NOT_FOUND

    static void promise12AgreesSideOutOfRangeAheadOfNoPatchBeside() {
        for (int side : new int[] {-1, 2, 3, Integer.MIN_VALUE, Integer.MAX_VALUE}) {
            refused(Check.INVALID, Look::fill, mesh -> mesh.agrees(3, side));
            refused(Check.INVALID, Look::fill, mesh -> mesh.agrees(8, side));
            refused(Check.INVALID, Look::fill, mesh -> mesh.agrees(11, side));
        }
    }

    static void promise12AgreesPatchOutOfRangeAheadOfNoPatchBeside() {
        for (int patch : new int[] {-1, 12, 15, 16, Integer.MIN_VALUE, Integer.MAX_VALUE}) {
            refused(Check.INVALID, Look::fill, mesh -> mesh.agrees(patch, 0));
            refused(Check.INVALID, Look::fill, mesh -> mesh.agrees(patch, 1));
        }
    }

    static void promise13CreaseAtOutOfRangeAheadOfNoPatchBeside() {
        for (int at : new int[] {-1, 9, Integer.MIN_VALUE, Integer.MAX_VALUE}) {
            refused(Check.INVALID, Look::fill, mesh -> mesh.crease(3, 0, at, 0));
            refused(Check.INVALID, Look::fill, mesh -> mesh.crease(8, 1, at, 0));
        }
    }

    static void promise13CreasePartOutOfRangeAheadOfNoPatchBeside() {
        for (int part : new int[] {-1, 3, Integer.MIN_VALUE, Integer.MAX_VALUE}) {
            refused(Check.INVALID, Look::fill, mesh -> mesh.crease(7, 0, 0, part));
            refused(Check.INVALID, Look::fill, mesh -> mesh.crease(11, 1, 8, part));
        }
    }

    static void promise13CreaseSideOutOfRangeAheadOfNoPatchBeside() {
        for (int side : new int[] {-1, 2, Integer.MIN_VALUE, Integer.MAX_VALUE}) {
            refused(Check.INVALID, Look::fill, mesh -> mesh.crease(11, side, 0, 0));
        }
    }

    static void promise13CreasePatchOutOfRangeAheadOfNoPatchBeside() {
        for (int patch : new int[] {-1, 12, 15, Integer.MIN_VALUE, Integer.MAX_VALUE}) {
            refused(Check.INVALID, Look::fill, mesh -> mesh.crease(patch, 0, 0, 0));
            refused(Check.INVALID, Look::fill, mesh -> mesh.crease(patch, 1, 0, 0));
        }
    }

    static void promise22FaultOutOfRangeAheadOfNoFault() {
        for (int what : new int[] {-1, 3, Integer.MIN_VALUE, Integer.MAX_VALUE}) {
            refused(Check.INVALID, RefusalsTest::nothing, mesh -> mesh.fault(what));
            refused(Check.INVALID, filledWith("f01;"), mesh -> mesh.fault(what));
            refused(Check.INVALID, filledWith("f01"), mesh -> mesh.fault(what));
        }
    }

    // ---- several arguments out of range at once

    static void promise02HoldWithSeveralArgumentsOutOfRange() {
        refused(Check.INVALID, Look::fill, mesh -> mesh.hold(-1, 4, 256, -1, 256));
        refused(Check.INVALID, Look::fill, mesh -> mesh.hold(0, 1, 1, 2, 256));
        refused(Check.INVALID, Look::fill, mesh -> mesh.hold(0, 1, 256, 2, 3));
    }

    static void promise04MoveWithSeveralArgumentsOutOfRange() {
        refused(Check.INVALID, Look::fill, mesh -> mesh.move(5, -1, 1000, -1));
        refused(Check.INVALID, Look::fill, mesh -> mesh.move(0, 0, 5, 1000));
        refused(Check.INVALID, Look::fill, mesh -> mesh.move(0, 0, 1000, 5));
    }

    static void promise05SlopeWithSeveralArgumentsOutOfRange() {
        refused(Check.INVALID, Look::fill, mesh -> mesh.slope(5, 4, 2, 3, 256));
        refused(Check.INVALID, Look::fill, mesh -> mesh.slope(0, 1, 0, 0, 256));
        refused(Check.INVALID, Look::fill, mesh -> mesh.slope(0, 1, 2, 0, 6));
    }

    /** A corner's number in one row is not that of a corner of the next row. */
    static void promise02To08ColumnFiveIsNoCornerOfTheNextRow() {
        refused(Check.INVALID, Look::fill, mesh -> mesh.hold(5, 0, 1, 2, 3));
        refused(Check.INVALID, Look::fill, mesh -> mesh.free(5, 0));
        refused(Check.INVALID, Look::fill, mesh -> mesh.free(-1, 2));
        refused(Check.INVALID, Look::fill, mesh -> mesh.move(5, 0, 1, 2));
        refused(Check.INVALID, Look::fill, mesh -> mesh.slope(5, 0, 0, 0, 1));
        refused(Check.INVALID, Look::fill, mesh -> mesh.loose(5, 0));
        refused(Check.INVALID, Look::fill, mesh -> mesh.loose(-1, 2));
        refused(Check.INVALID, Look::fill, mesh -> mesh.cornerOf(5, 0, 0));
    }

    // ---- calls that are no changes

    static void promise08To16LooksChangeNothing() {
        Look.changesNothing("behind cornerOf", Look::fill, mesh -> mesh.cornerOf(0, 1, 6));
        Look.changesNothing("behind point", Look::fill, mesh -> mesh.point(0, 4, 4, 0));
        Look.changesNothing("behind patchOf", Look::fill, mesh -> mesh.patchOf(0, 1));
        Look.changesNothing("behind count", Look::fill, mesh -> mesh.count(6));
        Look.changesNothing("behind agrees", Look::fill, mesh -> mesh.agrees(0, 0));
        Look.changesNothing("behind crease", Look::fill, mesh -> mesh.crease(0, 0, 4, 0));
        Look.changesNothing("behind level", Look::fill, mesh -> mesh.level(0, 0, 0, 255));
        Look.changesNothing("behind nearest", Look::fill, mesh -> mesh.nearest(500, 500, 0));
        Look.changesNothing("behind calm", Look::fill, ColourPatches::calm);
        Look.changesNothing("behind calm, half filled", Look::fillHalf, ColourPatches::calm);
    }

    static void promise22FaultChangesNothing() {
        for (int what = 0; what <= 2; what++) {
            int asked = what;
            Look.changesNothing("behind fault of the form", filledWith("c00:010203;m11:5,5;x"), mesh -> mesh.fault(asked));
            Look.changesNothing("behind fault of a command", halfFilledWith("f12;m11:5,5;f12;"), mesh -> mesh.fault(asked));
        }
    }
}
