import java.util.ArrayList;
import java.util.List;
import java.util.function.Consumer;

/** Promises 17 to 19: keep, restore, undo. */
public final class HistoryTest {
    public static void main(String[] args) throws IllegalAccessException {
        Cases.run(HistoryTest.class, args);
    }

    /** Four changes: places, colours, held corners and slopes of its own. */
    private static void first(ColourPatches mesh) {
        mesh.hold(1, 2, 10, 20, 30);
        mesh.hold(3, 0, 40, 50, 60);
        mesh.slope(2, 2, 1, 1, -9);
        mesh.move(4, 1, 777, 222);
    }

    /** Four more: all of them are others than those of the first ones. */
    private static void second(ColourPatches mesh) {
        mesh.free(1, 2);
        mesh.spread(3);
        mesh.loose(2, 2);
        mesh.move(4, 1, 0, 0);
    }

    /** Every place, colour, held corner and slope is another one than in a new object: 160 changes. */
    private static void everything(ColourPatches mesh) {
        for (int corner = 0; corner < 20; corner++) {
            int column = corner % 5;
            int row = corner / 5;
            mesh.hold(column, row, 3 * corner, 255 - corner, 200 - 2 * corner);
            mesh.move(column, row, 200 * column + corner + 1, 200 * row + 50 - corner);
            for (int which = 0; which < 6; which++) {
                mesh.slope(column, row, which / 3, which % 3, 6 * corner + which - 60);
            }
        }
    }

    /** The eight kinds of changes; each of them can be done behind the first four, a snapshot and a text. */
    private static List<Consumer<ColourPatches>> changes() {
        List<Consumer<ColourPatches>> all = new ArrayList<>();
        all.add(mesh -> mesh.hold(0, 0, 0, 0, 0));
        all.add(mesh -> mesh.free(1, 2));
        all.add(mesh -> mesh.move(1, 2, 0, 0));
        all.add(mesh -> mesh.slope(1, 2, 0, 0, 99));
        all.add(mesh -> mesh.loose(2, 2));
        all.add(mesh -> mesh.spread(2));
        all.add(ColourPatches::restore);
        all.add(ColourPatches::play);
        return all;
    }

    private static final String TEXT = "c33:010203;";

    // ---- promise 17

    static void promise17KeepOfANewObjectAnswers0() {
        ColourPatches mesh = new ColourPatches();
        Check.due("keep", mesh.keep(), 0);
        Check.due("snapshot", mesh.count(5), 1);
    }

    static void promise17KeepWithAllHeldAnswers20() {
        ColourPatches mesh = new ColourPatches();
        Look.holdAll(mesh, 1, 2, 3);
        Check.due("keep", mesh.keep(), 20);
    }

    static void promise17KeepIsNoChange() {
        ColourPatches mesh = new ColourPatches();
        mesh.keep();
        Check.due("an empty history", mesh.count(3), 0);
        first(mesh);
        mesh.keep();
        Check.due("a full history", mesh.count(3), 4);
        Check.due("undo", mesh.undo(), 3);
        Check.due("the latest change is undone", mesh.cornerOf(4, 1, 0), 800);
    }

    static void promise17KeepLeavesTheState() {
        Look.sameState("behind keep", mesh -> {
            first(mesh);
            mesh.keep();
        }, HistoryTest::first);
    }

    static void promise17KeepLeavesTheTextAndTheHistory() {
        ColourPatches mesh = new ColourPatches();
        mesh.hold(0, 0, 1, 2, 3);
        mesh.hold(0, 0, 4, 5, 6);
        Look.write(mesh, "f00;m11:0,9;");
        Check.due("keep", mesh.keep(), 1);
        Check.due("length", mesh.count(4), 12);
        Check.due("states", mesh.count(3), 2);
        Check.due("play", mesh.play(), 2);
        int[] want = {4, 1, 128};
        for (int part : want) {
            mesh.undo();
            Check.due("undone", mesh.cornerOf(0, 0, 2), part);
        }
        Check.due("undo", mesh.undo(), Check.NOT_POSSIBLE);
    }

    static void promise17KeepTakesThePlaceOfTheOneThatWas() {
        Look.sameState("restored", mesh -> {
            first(mesh);
            mesh.keep();
            second(mesh);
            mesh.keep();
            first(mesh);
            mesh.restore();
        }, mesh -> {
            first(mesh);
            second(mesh);
        });
    }

    static void promise17KeepTakesWhatIsThereThen() {
        Look.sameState("restored", mesh -> {
            mesh.keep();
            first(mesh);
            mesh.restore();
        }, mesh -> { });
    }

    static void promise17SnapshotStaysAsItIsByEachChange() {
        for (Consumer<ColourPatches> change : changes()) {
            Look.sameState("restored", mesh -> {
                first(mesh);
                mesh.keep();
                Look.write(mesh, TEXT);
                change.accept(mesh);
                mesh.restore();
            }, HistoryTest::first);
        }
    }

    static void promise17SnapshotStaysAsItIsByUndo() {
        Look.sameState("restored", mesh -> {
            first(mesh);
            mesh.keep();
            for (int at = 0; at < 5; at++) {
                mesh.undo();
            }
            mesh.restore();
        }, HistoryTest::first);
    }

    // ---- promise 18

    static void promise18RestoreWithoutSnapshotIsNotPossible() {
        ColourPatches mesh = new ColourPatches();
        Check.due("new", mesh.restore(), Check.NOT_POSSIBLE);
        first(mesh);
        Check.due("changed", mesh.restore(), Check.NOT_POSSIBLE);
        mesh.undo();
        Check.due("undone", mesh.restore(), Check.NOT_POSSIBLE);
        Check.due("states", mesh.count(3), 3);
    }

    static void promise18RestoreOnce() {
        Look.sameState("restored", mesh -> {
            first(mesh);
            mesh.keep();
            second(mesh);
            Check.due("restore", mesh.restore(), 2);
        }, HistoryTest::first);
    }

    static void promise18RestoreOnceAndAgain() {
        Look.sameState("restored again", mesh -> {
            first(mesh);
            mesh.keep();
            second(mesh);
            mesh.restore();
            second(mesh);
            mesh.hold(0, 0, 1, 1, 1);
            Check.due("restore again", mesh.restore(), 2);
        }, HistoryTest::first);
    }

    static void promise18RestoreOfEverything() {
        Look.sameState("restored", mesh -> {
            everything(mesh);
            mesh.keep();
            for (int corner = 0; corner < 20; corner++) {
                mesh.loose(corner % 5, corner / 5);
                mesh.free(corner % 5, corner / 5);
                mesh.move(corner % 5, corner / 5, 5, 6);
            }
            mesh.spread(2);
            Check.due("restore", mesh.restore(), 20);
        }, HistoryTest::everything);
    }

    static void promise18RestoreOfEverythingOnceAndAgain() {
        Look.sameState("restored", mesh -> {
            everything(mesh);
            mesh.keep();
            mesh.restore();
            mesh.spread(1);
            mesh.free(0, 0);
            mesh.loose(4, 3);
            Check.due("restore again", mesh.restore(), 20);
        }, HistoryTest::everything);
    }

    static void promise18RestoreTwiceAtOnce() {
        Look.sameState("restored twice", mesh -> {
            first(mesh);
            mesh.keep();
            second(mesh);
            mesh.restore();
            Check.due("restore again", mesh.restore(), 2);
        }, HistoryTest::first);
    }

    static void promise18SnapshotStays() {
        ColourPatches mesh = new ColourPatches();
        first(mesh);
        mesh.keep();
        for (int times = 0; times < 6; times++) {
            Check.due("restore", mesh.restore(), 2);
            Check.due("snapshot", mesh.count(5), 1);
        }
    }

    static void promise18RestoreAnswersHeldCornersFrom0To20() {
        ColourPatches none = new ColourPatches();
        none.keep();
        Look.holdAll(none, 1, 2, 3);
        Check.due("none", none.restore(), 0);
        Check.due("none is held", none.count(0), 0);
        ColourPatches all = new ColourPatches();
        Look.holdAll(all, 1, 2, 3);
        all.keep();
        Look.freeAll(all);
        Check.due("all", all.restore(), 20);
        Check.due("all are held", all.count(0), 20);
    }

    static void promise18RestoreOfWhatIsThereIsAChange() {
        ColourPatches mesh = new ColourPatches();
        mesh.keep();
        Check.due("restore", mesh.restore(), 0);
        Check.due("states", mesh.count(3), 1);
        Check.due("undo", mesh.undo(), 0);
    }

    static void promise18RestoreIsUndone() {
        Look.sameState("undone", mesh -> {
            first(mesh);
            mesh.keep();
            second(mesh);
            mesh.restore();
            Check.due("undo", mesh.undo(), 3);
        }, mesh -> {
            first(mesh);
            second(mesh);
        });
    }

    static void promise18RestoreWithAFullHistoryDropsTheOldest() {
        Look.sameState("undone", mesh -> {
            mesh.keep();
            first(mesh);
            Check.due("states", mesh.count(3), 4);
            mesh.restore();
            Check.due("states", mesh.count(3), 4);
            for (int left = 3; left >= 0; left--) {
                Check.due("undo", mesh.undo(), left);
            }
            Check.due("undo", mesh.undo(), Check.NOT_POSSIBLE);
        }, mesh -> mesh.hold(1, 2, 10, 20, 30));
    }

    /** One state ahead of keep, two behind it, and the restore itself. */
    static void promise18RestoreLeavesTheHistory() {
        ColourPatches mesh = new ColourPatches();
        mesh.hold(0, 0, 1, 2, 3);
        mesh.keep();
        mesh.hold(0, 0, 4, 5, 6);
        mesh.hold(0, 0, 7, 8, 9);
        mesh.restore();
        Check.due("states", mesh.count(3), 4);
        Check.due("now", mesh.cornerOf(0, 0, 2), 1);
        int[] want = {7, 4, 1, 128};
        for (int part : want) {
            mesh.undo();
            Check.due("undone", mesh.cornerOf(0, 0, 2), part);
        }
    }

    static void promise18RestoreLeavesTheText() {
        ColourPatches mesh = new ColourPatches();
        Look.write(mesh, "f00;");
        mesh.keep();
        Look.rewrite(mesh, "c00:010203;");
        mesh.restore();
        Check.due("length", mesh.count(4), 11);
        Check.due("play", mesh.play(), 1);
        Check.due("played", mesh.cornerOf(0, 0, 4), 3);
    }

    // ---- promise 19

    static void promise19UndoWithAnEmptyHistoryIsNotPossible() {
        Check.due("undo", new ColourPatches().undo(), Check.NOT_POSSIBLE);
    }

    static void promise19UndoOfTheOnlyStateAnswers0() {
        Look.sameState("undone", mesh -> {
            mesh.hold(0, 0, 1, 2, 3);
            Check.due("undo", mesh.undo(), 0);
            Check.due("states", mesh.count(3), 0);
            Check.due("undo again", mesh.undo(), Check.NOT_POSSIBLE);
        }, mesh -> { });
    }

    /** So many changes, each with another colour, of which so many are undone. */
    private static ColourPatches changedAndUndone(int changes, int undone) {
        ColourPatches mesh = new ColourPatches();
        for (int change = 1; change <= changes; change++) {
            mesh.hold(0, 0, change, 0, 0);
        }
        for (int at = 0; at < undone; at++) {
            mesh.undo();
        }
        return mesh;
    }

    static void promise19UndoOfAFullHistory() {
        int[] want = {3, 2, 1, 128};
        for (int undone = 1; undone <= 4; undone++) {
            ColourPatches mesh = changedAndUndone(4, undone - 1);
            Check.due("undo", mesh.undo(), 4 - undone);
            Check.due("undone " + undone, mesh.cornerOf(0, 0, 2), want[undone - 1]);
        }
        Check.due("once more", changedAndUndone(4, 4).undo(), Check.NOT_POSSIBLE);
        Check.due("not held", changedAndUndone(4, 4).cornerOf(0, 0, 5), 0);
    }

    static void promise19UndoOfOneStateMoreThanFits() {
        int[] want = {4, 3, 2, 1};
        for (int undone = 1; undone <= 4; undone++) {
            ColourPatches mesh = changedAndUndone(5, undone - 1);
            Check.due("undo", mesh.undo(), 4 - undone);
            Check.due("undone " + undone, mesh.cornerOf(0, 0, 2), want[undone - 1]);
        }
        Check.due("the oldest is dropped", changedAndUndone(5, 4).undo(), Check.NOT_POSSIBLE);
        Check.due("as behind the first change", changedAndUndone(5, 5).cornerOf(0, 0, 2), 1);
    }

    static void promise19UndoOfManyStatesMoreThanFit() {
        for (int changes = 4; changes <= 13; changes++) {
            for (int undone = 1; undone <= 4; undone++) {
                ColourPatches mesh = changedAndUndone(changes, undone);
                int left = changes - undone;
                Check.due("undone " + undone + " of " + changes, mesh.cornerOf(0, 0, 2), left == 0 ? 128 : left);
            }
            Check.due("the fifth is gone", changedAndUndone(changes, 4).undo(), Check.NOT_POSSIBLE);
        }
    }

    /** Behind an undo the next change takes the place of what was undone. */
    static void promise19ChangesBehindUndo() {
        ColourPatches mesh = changedAndUndone(6, 2);
        mesh.hold(0, 0, 50, 0, 0);
        mesh.hold(0, 0, 51, 0, 0);
        mesh.hold(0, 0, 52, 0, 0);
        Check.due("states", mesh.count(3), 4);
        int[] want = {51, 50, 4, 3};
        for (int at = 0; at < 4; at++) {
            Check.due("undo", mesh.undo(), 3 - at);
            Check.due("undone", mesh.cornerOf(0, 0, 2), want[at]);
        }
        Check.due("undo", mesh.undo(), Check.NOT_POSSIBLE);
    }

    static void promise19UndoIsNoChange() {
        ColourPatches mesh = changedAndUndone(2, 1);
        Check.due("states", mesh.count(3), 1);
        Check.due("undo goes on", mesh.undo(), 0);
        Check.due("undone", mesh.cornerOf(0, 0, 2), 128);
    }

    static void promise19UndoOfEachChange() {
        for (Consumer<ColourPatches> change : changes()) {
            Consumer<ColourPatches> ahead = mesh -> {
                first(mesh);
                mesh.keep();
                mesh.undo();
                Look.write(mesh, TEXT);
            };
            Consumer<ColourPatches> changed = ahead.andThen(change);
            Check.that("it changes", !Look.state(changed).equals(Look.state(ahead)));
            Check.due("states", Look.behind(changed).count(3), 4);
            Look.sameWhole("undone", changed.andThen(mesh -> Check.due("undo", mesh.undo(), 3)), ahead);
        }
    }

    static void promise19UndoOfEverything() {
        Look.sameState("undone", mesh -> {
            mesh.keep();
            everything(mesh);
            mesh.restore();
            Check.due("undo", mesh.undo(), 3);
        }, HistoryTest::everything);
    }

    static void promise19EachChangeWithAFullHistoryDropsTheOldest() {
        for (Consumer<ColourPatches> change : changes()) {
            Look.sameState("undone four times", mesh -> {
                first(mesh);
                mesh.keep();
                Look.write(mesh, TEXT);
                change.accept(mesh);
                for (int left = 3; left >= 0; left--) {
                    Check.due("undo", mesh.undo(), left);
                }
                Check.due("undo", mesh.undo(), Check.NOT_POSSIBLE);
            }, mesh -> mesh.hold(1, 2, 10, 20, 30));
        }
    }

    static void promise19UndoLeavesTheText() {
        ColourPatches mesh = new ColourPatches();
        mesh.hold(0, 0, 1, 1, 1);
        Look.write(mesh, "c11:0405");
        mesh.hold(0, 0, 2, 2, 2);
        Look.write(mesh, "06;");
        mesh.undo();
        Check.due("length", mesh.count(4), 11);
        mesh.undo();
        Check.due("length", mesh.count(4), 11);
        Check.due("play", mesh.play(), 1);
        Check.due("played", mesh.cornerOf(1, 1, 4), 6);
    }

    static void promise19UndoLeavesAClearedTextClear() {
        ColourPatches mesh = new ColourPatches();
        Look.write(mesh, "c11:040506;");
        mesh.hold(0, 0, 2, 2, 2);
        mesh.clearText();
        mesh.undo();
        Check.due("length", mesh.count(4), 0);
        Check.due("play", mesh.play(), 0);
    }

    static void promise19UndoLeavesTheSnapshot() {
        ColourPatches mesh = new ColourPatches();
        mesh.hold(0, 0, 1, 1, 1);
        mesh.keep();
        mesh.undo();
        Check.due("snapshot", mesh.count(5), 1);
        Check.due("restore", mesh.restore(), 1);
        Check.due("restored", mesh.cornerOf(0, 0, 2), 1);
    }

    /** The snapshot of the time of the undone state was another one. */
    static void promise19UndoLeavesTheLatestSnapshot() {
        ColourPatches mesh = new ColourPatches();
        mesh.keep();
        mesh.hold(0, 0, 1, 1, 1);
        mesh.hold(1, 0, 2, 2, 2);
        mesh.keep();
        mesh.undo();
        mesh.undo();
        Check.due("restore", mesh.restore(), 2);
        Check.due("restored", mesh.cornerOf(1, 0, 2), 2);
    }

    static void promise19CallsThatAreNoChangesAreNotUndone() {
        ColourPatches mesh = new ColourPatches();
        mesh.hold(0, 0, 1, 1, 1);
        mesh.keep();
        mesh.type('f');
        mesh.clearText();
        mesh.fault(0);
        mesh.calm();
        mesh.count(0);
        mesh.nearest(5, 5, 0);
        Check.due("states", mesh.count(3), 1);
        Check.due("undo", mesh.undo(), 0);
        Check.due("undone", mesh.cornerOf(0, 0, 2), 128);
    }
}
