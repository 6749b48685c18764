/** Promises 17 to 19: keep, restore, undo. */
public final class UndoTest {
    public static void main(String[] args) {
        keepAndRestore();
        undo();
        undoOfEachChange();
        fourStates();
        textAndSnapshotStay();
        Check.end();
    }

    private static ColourPatches changedMesh() {
        ColourPatches mesh = new ColourPatches();
        mesh.hold(1, 2, 10, 20, 30);
        mesh.hold(3, 0, 40, 50, 60);
        mesh.slope(2, 2, 1, 1, -9);
        mesh.move(4, 1, 777, 222);
        return mesh;
    }

    private static void keepAndRestore() {
        ColourPatches mesh = changedMesh();
        Check.due("restore without a snapshot", mesh.restore(), Check.NOT_POSSIBLE);
        String kept = Check.state(mesh);
        Check.due("keep", mesh.keep(), 2);
        Check.due("keep is no change", mesh.count(3), 4);
        mesh.free(1, 2);
        mesh.spread(3);
        mesh.loose(2, 2);
        mesh.move(4, 1, 0, 0);
        Check.due("restore", mesh.restore(), 2);
        Check.same("restore", Check.state(mesh), kept);
        mesh.hold(0, 0, 1, 1, 1);
        Check.due("restore again", mesh.restore(), 2);
        Check.same("restore again", Check.state(mesh), kept);
        mesh.hold(0, 0, 1, 1, 1);
        String second = Check.state(mesh);
        Check.due("keep in place of the one that was", mesh.keep(), 3);
        mesh.free(0, 0);
        Check.due("restore the second", mesh.restore(), 3);
        Check.same("restore the second", Check.state(mesh), second);
    }

    private static void undo() {
        ColourPatches mesh = new ColourPatches();
        Check.due("undo, no history", mesh.undo(), Check.NOT_POSSIBLE);
        String first = Check.state(mesh);
        mesh.hold(0, 0, 1, 2, 3);
        String second = Check.state(mesh);
        mesh.move(0, 0, 5, 5);
        Check.due("undo", mesh.undo(), 1);
        Check.same("undo", Check.state(mesh), second);
        Check.due("undo", mesh.undo(), 0);
        Check.same("undo", Check.state(mesh), first);
        Check.due("undo, empty", mesh.undo(), Check.NOT_POSSIBLE);
        mesh.hold(0, 0, 1, 2, 3);
        Check.due("undo of a new one", mesh.undo(), 0);
        Check.same("undo of a new one", Check.state(mesh), first);
    }

    private static void undoOfEachChange() {
        for (int which = 0; which <= 7; which++) {
            ColourPatches mesh = changedMesh();
            mesh.keep();
            mesh.undo();
            Check.write(mesh, "c33:010203;");
            String before = Check.state(mesh);
            int states = mesh.count(3);
            doChange(mesh, which);
            Check.that("change " + which + " changes", !Check.state(mesh).equals(before));
            Check.due("change " + which, mesh.count(3), states + 1);
            Check.due("undo of change " + which, mesh.undo(), states);
            Check.same("undo of change " + which, Check.state(mesh), before);
        }
    }

    private static void doChange(ColourPatches mesh, int which) {
        if (which == 0) {
            mesh.hold(0, 0, 0, 0, 0);
        } else if (which == 1) {
            mesh.free(1, 2);
        } else if (which == 2) {
            mesh.move(1, 2, 0, 0);
        } else if (which == 3) {
            mesh.slope(1, 2, 0, 0, 99);
        } else if (which == 4) {
            mesh.loose(2, 2);
        } else if (which == 5) {
            mesh.spread(2);
        } else if (which == 6) {
            mesh.restore();
        } else {
            mesh.play();
        }
    }

    private static void fourStates() {
        ColourPatches mesh = new ColourPatches();
        String[] states = new String[8];
        for (int at = 0; at < 8; at++) {
            states[at] = Check.state(mesh);
            mesh.hold(0, 0, at, at, at);
            Check.due("states", mesh.count(3), Math.min(at + 1, 4));
        }
        for (int left = 3; left >= 0; left--) {
            Check.due("undo", mesh.undo(), left);
            Check.same("undo to " + left, Check.state(mesh), states[left + 4]);
        }
        Check.due("the fifth is gone", mesh.undo(), Check.NOT_POSSIBLE);
        Check.due("its colour", mesh.cornerOf(0, 0, 2), 3);
    }

    private static void textAndSnapshotStay() {
        ColourPatches mesh = new ColourPatches();
        mesh.hold(0, 0, 1, 1, 1);
        mesh.keep();
        Check.write(mesh, "f00;");
        Check.due("undo", mesh.undo(), 0);
        Check.due("the text stays", mesh.count(4), 4);
        Check.due("the snapshot stays", mesh.count(5), 1);
        mesh.clearText();
        Check.write(mesh, "ab");
        Check.due("restore", mesh.restore(), 1);
        Check.due("the text stays by restore", mesh.count(4), 2);
        Check.due("the snapshot stays by restore", mesh.count(5), 1);
        Check.due("undo of restore", mesh.undo(), 0);
        Check.due("not held", mesh.count(0), 0);
        Check.due("the snapshot stays still", mesh.restore(), 1);
    }
}
