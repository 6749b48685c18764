/** Promises 12 to 16: agrees, crease, level, nearest, calm. */
public final class EdgesTest {
    public static void main(String[] args) {
        agrees();
        crease();
        level();
        nearest();
        calm();
        Check.end();
    }

    private static void agrees() {
        ColourPatches mesh = new ColourPatches();
        mesh.hold(1, 1, 255, 0, 17);
        mesh.hold(2, 1, 0, 255, 18);
        mesh.slope(1, 1, 0, 0, 255);
        mesh.slope(2, 1, 1, 1, -255);
        for (int patch = 0; patch < 12; patch++) {
            Check.due("agrees with the next column", mesh.agrees(patch, 0), patch % 4 == 3 ? Check.NOT_FOUND : 1);
            Check.due("agrees with the next row", mesh.agrees(patch, 1), patch / 4 == 2 ? Check.NOT_FOUND : 1);
        }
        Check.due("side 2", mesh.agrees(0, 2), Check.INVALID);
        Check.due("side -1", mesh.agrees(0, -1), Check.INVALID);
        Check.due("side 2 at the end", mesh.agrees(11, 2), Check.INVALID);
        Check.due("patch 12", mesh.agrees(12, 0), Check.INVALID);
        Check.due("patch -1", mesh.agrees(-1, 1), Check.INVALID);
        for (int far : Check.FAR) {
            Check.due("far patch", mesh.agrees(far, 0), Check.INVALID);
            Check.due("far side", mesh.agrees(0, far), Check.INVALID);
        }
    }

    private static void crease() {
        ColourPatches mesh = new ColourPatches();
        mesh.hold(1, 0, 100, 255, 0);
        mesh.hold(1, 2, 3, 200, 90);
        mesh.slope(1, 1, 0, 1, -200);
        mesh.slope(2, 1, 1, 0, 200);
        for (int patch = 0; patch < 12; patch++) {
            for (int at = 0; at <= 8; at++) {
                for (int part = 0; part <= 2; part++) {
                    Check.due("crease by columns", mesh.crease(patch, 0, at, part), creaseByColumns(mesh, patch, at, part));
                    Check.due("crease by rows", mesh.crease(patch, 1, at, part), creaseByRows(mesh, patch, at, part));
                }
            }
        }
        // By hand: part 0 along row 0, slopes told to be 0: 128, 100, 128 by A and B.
        ColourPatches plain = new ColourPatches();
        for (int column = 0; column <= 2; column++) {
            plain.slope(column, 0, 0, 0, 0);
        }
        plain.hold(1, 0, 100, 0, 0);
        // At 7: (128 * 22 + 100 * 490) / 512 = 101.2; at 1 behind: the same; 100 at the edge.
        Check.due("a crease", plain.crease(0, 0, 0, 0), 2);
        int[][] wrong = {{12, 0, 0, 0}, {-1, 0, 0, 0}, {0, 2, 0, 0}, {0, -1, 0, 0}, {0, 0, 9, 0}, {0, 0, -1, 0},
            {0, 0, 0, 3}, {0, 0, 0, -1}, {3, 0, 9, 0}, {3, 0, 0, 3}, {8, 1, -1, 0}, {8, 2, 0, 0}};
        for (int[] row : wrong) {
            Check.due("crease out of range", mesh.crease(row[0], row[1], row[2], row[3]), Check.INVALID);
        }
        for (int far : Check.FAR) {
            Check.due("far patch", mesh.crease(far, 0, 0, 0), Check.INVALID);
            Check.due("far side", mesh.crease(0, far, 0, 0), Check.INVALID);
            Check.due("far at", mesh.crease(0, 0, far, 0), Check.INVALID);
            Check.due("far part", mesh.crease(0, 0, 0, far), Check.INVALID);
        }
    }

    private static int creaseByColumns(ColourPatches mesh, int patch, int at, int part) {
        if (patch % 4 == 3) {
            return Check.NOT_FOUND;
        }
        int ahead = mesh.point(patch, 7, at, part);
        int edge = mesh.point(patch, 8, at, part);
        int behind = mesh.point(patch + 1, 1, at, part);
        return Math.abs((ahead - edge) - (edge - behind));
    }

    private static int creaseByRows(ColourPatches mesh, int patch, int at, int part) {
        if (patch >= 8) {
            return Check.NOT_FOUND;
        }
        int ahead = mesh.point(patch, at, 7, part);
        int edge = mesh.point(patch, at, 8, part);
        int behind = mesh.point(patch + 4, at, 1, part);
        return Math.abs((ahead - edge) - (edge - behind));
    }

    private static void level() {
        ColourPatches mesh = new ColourPatches();
        for (int which = 0; which < 4; which++) {
            mesh.slope(which % 2, which / 2, 0, 1, 0);
            mesh.slope(which % 2, which / 2, 1, 1, 0);
        }
        mesh.hold(0, 0, 9, 0, 9);
        mesh.hold(0, 1, 9, 0, 9);
        mesh.hold(1, 0, 9, 255, 9);
        mesh.hold(1, 1, 9, 255, 9);
        // Part 1 by u: 0, 10, 39, 80, 127, 174, 215, 244, 255, nine points each.
        Check.due("all", mesh.level(0, 1, 0, 255), 81);
        Check.due("both ends count", mesh.level(0, 1, 39, 80), 18);
        Check.due("just inside", mesh.level(0, 1, 40, 79), 0);
        Check.due("one number", mesh.level(0, 1, 255, 255), 9);
        Check.due("low above high", mesh.level(0, 1, 80, 39), 0);
        Check.due("any numbers", mesh.level(0, 1, Integer.MIN_VALUE, Integer.MAX_VALUE), 81);
        Check.due("any numbers, the other way", mesh.level(0, 1, Integer.MAX_VALUE, Integer.MIN_VALUE), 0);
        Check.due("below 0", mesh.level(0, 1, -5, -1), 0);
        Check.due("another patch", mesh.level(11, 2, 128, 128), 81);
        Check.due("patch 12", mesh.level(12, 0, 0, 0), Check.INVALID);
        Check.due("patch -1", mesh.level(-1, 0, 0, 0), Check.INVALID);
        Check.due("part 3", mesh.level(0, 3, 0, 0), Check.INVALID);
        Check.due("part -1", mesh.level(0, -1, 5, 0), Check.INVALID);
        for (int far : Check.FAR) {
            Check.due("far patch", mesh.level(far, 0, 0, 0), Check.INVALID);
            Check.due("far part", mesh.level(0, far, 0, 0), Check.INVALID);
        }
    }

    private static void nearest() {
        ColourPatches mesh = new ColourPatches();
        nearestDue(mesh, 0, 0, 0, 0, 0, 0);
        nearestDue(mesh, 200, 200, 0, 8, 8, 0);
        nearestDue(mesh, 400, 100, 1, 8, 4, 0);
        nearestDue(mesh, 999, 999, 11, 8, 8, 199 * 199 + 399 * 399);
        nearestDue(mesh, 999, 0, 3, 8, 0, 199 * 199);
        // 612 is nearer to 600, on the edge of two patches, and 613 to 625; rows likewise.
        nearestDue(mesh, 612, 413, 10, 8, 1, 144 + 144);
        nearestDue(mesh, 613, 412, 7, 1, 8, 144 + 144);
        nearestDue(mesh, 613, 413, 11, 1, 1, 144 + 144);
        // Two points as near: first the lowest v, then the lowest u.
        ColourPatches narrow = new ColourPatches();
        for (int row = 0; row < 4; row++) {
            for (int column = 0; column < 5; column++) {
                narrow.move(column, row, 2 * column * 8, 2 * row * 8);
            }
        }
        nearestDue(narrow, 3, 3, 0, 1, 1, 2);
        nearestDue(narrow, 21, 3, 1, 2, 1, 2);
        // All points in one place: the lowest of all.
        for (int row = 0; row < 4; row++) {
            for (int column = 0; column < 5; column++) {
                narrow.move(column, row, 0, 999);
            }
        }
        nearestDue(narrow, 999, 0, 0, 0, 0, 2 * 999 * 999);
        int[][] wrong = {{-1, 0, 0}, {1000, 0, 0}, {0, -1, 0}, {0, 1000, 0}, {0, 0, -1}, {0, 0, 4}};
        for (int[] row : wrong) {
            Check.due("nearest out of range", mesh.nearest(row[0], row[1], row[2]), Check.INVALID);
        }
        for (int far : Check.FAR) {
            Check.due("far x", mesh.nearest(far, 0, 0), Check.INVALID);
            Check.due("far y", mesh.nearest(0, far, 0), Check.INVALID);
            Check.due("far what", mesh.nearest(0, 0, far), Check.INVALID);
        }
    }

    private static void nearestDue(ColourPatches mesh, int x, int y, int patch, int u, int v, int sum) {
        String call = "nearest(" + x + ", " + y + ", ";
        Check.due(call + "0)", mesh.nearest(x, y, 0), patch);
        Check.due(call + "1)", mesh.nearest(x, y, 1), u);
        Check.due(call + "2)", mesh.nearest(x, y, 2), v);
        Check.due(call + "3)", mesh.nearest(x, y, 3), sum);
    }

    private static void calm() {
        ColourPatches mesh = new ColourPatches();
        Check.due("an even mesh", mesh.calm(), 0);
        // The corners of even sum lie beside those of odd sum alone: they change places for ever.
        for (int row = 0; row < 4; row++) {
            for (int column = 0; column < 5; column++) {
                int value = (column + row) % 2 == 0 ? 0 : 200;
                mesh.hold(column, row, value, value, value);
            }
        }
        Check.due("all are held", mesh.calm(), 0);
        for (int row = 0; row < 4; row++) {
            for (int column = 0; column < 5; column++) {
                mesh.free(column, row);
            }
        }
        String before = Check.state(mesh);
        Check.due("never calm", mesh.calm(), Check.NOT_FOUND);
        Check.same("calm", Check.state(mesh), before);
        // One that is free among held ones is calm behind one round.
        ColourPatches one = new ColourPatches();
        for (int row = 0; row < 4; row++) {
            for (int column = 0; column < 5; column++) {
                one.hold(column, row, 10, 20, 30);
            }
        }
        one.hold(2, 2, 0, 0, 0);
        one.free(2, 2);
        int states = one.count(3);
        Check.due("one round", one.calm(), 1);
        Check.due("calm is no change", one.count(3), states);
        Check.due("its colour stays", one.cornerOf(2, 2, 2), 0);
        one.spread(1);
        Check.due("calm then", one.calm(), 0);
        calmBySpreading();
        // Found by trying: these two come to rest behind 40 and behind 41 rounds.
        Check.due("calm at 40", heldAtBothEnds(1, 205).calm(), 40);
        Check.due("calm at 41", heldAtBothEnds(1, 215).calm(), Check.NOT_FOUND);
        Check.due("behind 40", stillChanging(heldAtBothEnds(1, 205), 40), 0);
        Check.due("behind 41, not behind 40", stillChanging(heldAtBothEnds(1, 215), 40), 1);
        Check.due("behind 41", stillChanging(heldAtBothEnds(1, 215), 41), 0);
    }

    private static ColourPatches heldAtBothEnds(int first, int last) {
        ColourPatches mesh = new ColourPatches();
        mesh.hold(0, 0, first, 128, 128);
        mesh.hold(4, 3, last, 128, 128);
        return mesh;
    }

    /** 1 if one more round behind so many changes something, otherwise 0. */
    private static int stillChanging(ColourPatches mesh, int rounds) {
        for (int round = 0; round < rounds; round++) {
            mesh.spread(1);
        }
        return mesh.spread(1) > 0 ? 1 : 0;
    }

    /** Rounds done one by one agree with what calm says, for meshes on both sides of 40. */
    private static void calmBySpreading() {
        int below = 0;
        int above = 0;
        for (int value = 0; value <= 255; value++) {
            ColourPatches mesh = new ColourPatches();
            mesh.hold(0, 0, value, 128, 128);
            mesh.hold(4, 3, 255 - value, 128, 128);
            mesh.hold(2, 1, value, value, 128);
            mesh.hold(2, 2, 0, 128, 128);
            int said = mesh.calm();
            int rounds = 0;
            while (rounds <= 60 && mesh.spread(1) != 0) {
                rounds++;
            }
            Check.due("calm for " + value, said, rounds > 40 ? Check.NOT_FOUND : rounds);
            if (rounds > 40) {
                above++;
            } else {
                below++;
            }
        }
        System.out.println("calm behind up to 40 rounds: " + below + ", later or never: " + above);
    }
}
