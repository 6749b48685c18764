/** Promises 8 to 11: cornerOf, point, patchOf, count. */
public final class PointsTest {
    public static void main(String[] args) {
        cornerOf();
        pointColours();
        pointHeldBetween();
        pointPlaces();
        pointErrors();
        patchOf();
        folded();
        smallestPatch();
        area();
        count();
        Check.end();
    }

    private static void cornerOf() {
        ColourPatches mesh = new ColourPatches();
        mesh.move(3, 2, 601, 402);
        mesh.hold(3, 2, 11, 12, 13);
        for (int along = 0; along <= 1; along++) {
            for (int part = 0; part <= 2; part++) {
                Check.due("told", mesh.cornerOf(3, 2, 12), along * 3 + part);
                mesh.slope(3, 2, along, part, 20 + along * 3 + part);
            }
        }
        int[] want = {601, 402, 11, 12, 13, 1, 20, 21, 22, 23, 24, 25, 6};
        for (int what = 0; what <= 12; what++) {
            Check.due("cornerOf(3, 2, " + what + ")", mesh.cornerOf(3, 2, what), want[what]);
        }
        Check.due("what 13", mesh.cornerOf(0, 0, 13), Check.INVALID);
        Check.due("what -1", mesh.cornerOf(0, 0, -1), Check.INVALID);
        Check.due("column 5", mesh.cornerOf(5, 0, 0), Check.INVALID);
        Check.due("column -1", mesh.cornerOf(-1, 1, 0), Check.INVALID);
        Check.due("row 4", mesh.cornerOf(0, 4, 0), Check.INVALID);
        Check.due("row -1", mesh.cornerOf(0, -1, 0), Check.INVALID);
        for (int far : Check.FAR) {
            Check.due("far column", mesh.cornerOf(far, 0, 0), Check.INVALID);
            Check.due("far row", mesh.cornerOf(0, far, 0), Check.INVALID);
            Check.due("far what", mesh.cornerOf(0, 0, far), Check.INVALID);
        }
    }

    /** A mesh whose slopes around patch 0 are told to be 0, so that A and B alone count. */
    private static ColourPatches flatMesh() {
        ColourPatches mesh = new ColourPatches();
        for (int which = 0; which < 4; which++) {
            for (int along = 0; along <= 1; along++) {
                mesh.slope(which % 2, which / 2, along, 0, 0);
            }
        }
        return mesh;
    }

    private static void pointColours() {
        ColourPatches mesh = flatMesh();
        mesh.hold(0, 0, 0, 0, 0);
        mesh.hold(0, 1, 0, 0, 0);
        mesh.hold(1, 0, 255, 0, 0);
        mesh.hold(1, 1, 255, 0, 0);
        // 255 * B(u) / 512, B = 0, 22, 80, 162, 256, 350, 432, 490, 512.
        int[] want = {0, 10, 39, 80, 127, 174, 215, 244, 255};
        for (int u = 0; u <= 8; u++) {
            for (int v = 0; v <= 8; v++) {
                Check.due("point(0, " + u + ", " + v + ", 0)", mesh.point(0, u, v, 0), want[u]);
            }
        }
        // One more slope along the row at (0, 0): 100 * C(u) / 512 at v 0, C(4) = 64, C(2) = 72.
        mesh.slope(0, 0, 0, 0, 100);
        Check.due("C(4)", mesh.point(0, 4, 0, 0), (255 * 256 + 100 * 64) / 512);
        Check.due("C(2)", mesh.point(0, 2, 0, 0), (255 * 80 + 100 * 72) / 512);
        Check.due("C(2) Q(4)", mesh.point(0, 2, 4, 0), (255 * 80 * 512 + 100 * 72 * 256) / 262144);
        Check.due("nothing at v 8", mesh.point(0, 2, 8, 0), 39);
        // And along the column at (1, 1): P(u) = B(u), S(v) = D(v), D(6) = -72.
        mesh.slope(1, 1, 1, 0, 200);
        Check.due("D(6)", mesh.point(0, 8, 6, 0), (255 * 512 - 200 * 72) / 512);
        Check.due("D(6) B(4)", mesh.point(0, 4, 6, 0),
                (255 * 256 * 512 + 100 * 64 * 80 - 200 * 72 * 256) / 262144);
        // The corners of a patch have their points.
        mesh.hold(2, 2, 1, 2, 3);
        Check.due("corner of patch 6", mesh.point(6, 0, 8, 1), 2);
        Check.due("corner of patch 5", mesh.point(5, 8, 8, 2), 3);
        Check.due("corner of patch 1", mesh.point(1, 8, 8, 0), 128);
        Check.due("corner of patch 9", mesh.point(9, 8, 0, 0), 1);
        mesh.hold(4, 3, 77, 78, 79);
        Check.due("last corner", mesh.point(11, 8, 8, 0), 77);
    }

    private static void pointHeldBetween() {
        ColourPatches mesh = flatMesh();
        for (int which = 0; which < 4; which++) {
            mesh.hold(which % 2, which / 2, 255, 255, 255);
        }
        mesh.slope(0, 0, 0, 0, 255);
        Check.due("not above 255", mesh.point(0, 4, 0, 0), 255);
        mesh.slope(0, 0, 0, 0, -1);
        Check.due("rounded down", mesh.point(0, 4, 0, 0), 254);
        for (int which = 0; which < 4; which++) {
            mesh.hold(which % 2, which / 2, 0, 0, 0);
        }
        Check.due("not below 0", mesh.point(0, 4, 0, 0), 0);
        mesh.slope(0, 0, 0, 0, -255);
        Check.due("far below 0", mesh.point(0, 3, 0, 0), 0);
    }

    private static void pointPlaces() {
        ColourPatches mesh = new ColourPatches();
        for (int patch = 0; patch < 12; patch++) {
            for (int u = 0; u <= 8; u++) {
                for (int v = 0; v <= 8; v++) {
                    Check.due("x", mesh.point(patch, u, v, 3), 200 * (patch % 4) + 25 * u);
                    Check.due("y", mesh.point(patch, u, v, 4), 200 * (patch / 4) + 25 * v);
                }
            }
        }
        mesh.move(1, 1, 201, 333);
        Check.due("rounded down", mesh.point(0, 7, 7, 3), (200 * 7 * 1 + 201 * 49) / 64);
        Check.due("y", mesh.point(0, 7, 3, 4), (200 * 1 * 3 + 333 * 7 * 3) / 64);
        Check.due("y of the patch beside", mesh.point(1, 1, 8, 4), (333 * 7 + 200) / 8);
    }

    private static void pointErrors() {
        ColourPatches mesh = new ColourPatches();
        int[][] wrong = {{-1, 0, 0, 0}, {12, 0, 0, 0}, {0, -1, 0, 0}, {0, 9, 0, 0}, {0, 0, -1, 0}, {0, 0, 9, 0},
            {0, 0, 0, -1}, {0, 0, 0, 5}};
        for (int[] row : wrong) {
            Check.due("point out of range", mesh.point(row[0], row[1], row[2], row[3]), Check.INVALID);
        }
        for (int far : Check.FAR) {
            Check.due("far patch", mesh.point(far, 0, 0, 0), Check.INVALID);
            Check.due("far u", mesh.point(0, far, 0, 0), Check.INVALID);
            Check.due("far v", mesh.point(0, 0, far, 0), Check.INVALID);
            Check.due("far what", mesh.point(0, 0, 0, far), Check.INVALID);
        }
    }

    private static void patchOf() {
        ColourPatches mesh = flatMesh();
        Check.due("one colour", mesh.patchOf(0, 1), 1);
        Check.due("greatest sum", mesh.patchOf(0, 2), 384);
        Check.due("least sum", mesh.patchOf(0, 3), 384);
        Check.due("held", mesh.patchOf(0, 4), 0);
        Check.due("area", mesh.patchOf(0, 5), 80000);
        mesh.hold(0, 0, 0, 128, 128);
        mesh.hold(0, 1, 0, 128, 128);
        mesh.hold(1, 0, 255, 128, 128);
        Check.due("held", mesh.patchOf(0, 4), 3);
        mesh.hold(1, 1, 255, 128, 128);
        // By u alone: nine colours, from 0 to 255 in part 0.
        Check.due("nine colours", mesh.patchOf(0, 1), 9);
        Check.due("greatest sum", mesh.patchOf(0, 2), 511);
        Check.due("least sum", mesh.patchOf(0, 3), 256);
        Check.due("held", mesh.patchOf(0, 4), 4);
        Check.due("held of the patch beside", mesh.patchOf(1, 4), 2);
        Check.due("held of the patch below", mesh.patchOf(4, 4), 2);
        Check.due("held of the patch across", mesh.patchOf(5, 4), 1);
        Check.due("held of another patch", mesh.patchOf(6, 4), 0);
        int[][] wrong = {{-1, 0}, {12, 0}, {0, -1}, {0, 6}};
        for (int[] row : wrong) {
            Check.due("patchOf out of range", mesh.patchOf(row[0], row[1]), Check.INVALID);
        }
        for (int far : Check.FAR) {
            Check.due("far patch", mesh.patchOf(far, 0), Check.INVALID);
            Check.due("far what", mesh.patchOf(0, far), Check.INVALID);
        }
    }

    /** Each of the four corners pushed inward over the diagonal folds the patch; on it, too. */
    private static void folded() {
        int[][] inward = {{0, 0, 150, 150}, {1, 0, 50, 150}, {1, 1, 50, 50}, {0, 1, 150, 50}};
        int[][] onLine = {{0, 0, 100, 100}, {1, 0, 100, 100}, {1, 1, 100, 100}, {0, 1, 100, 100}};
        int[][] outside = {{0, 0, 99, 100}, {1, 0, 101, 100}, {1, 1, 101, 100}, {0, 1, 99, 100}};
        for (int at = 0; at < 4; at++) {
            Check.due("inward " + at, movedFold(inward[at]), 1);
            Check.due("on the line " + at, movedFold(onLine[at]), 1);
            Check.due("outside " + at, movedFold(outside[at]), 0);
        }
    }

    /** The least turn above 0 is 1. */
    private static void smallestPatch() {
        ColourPatches mesh = new ColourPatches();
        mesh.move(1, 0, 1, 0);
        mesh.move(1, 1, 1, 1);
        mesh.move(0, 1, 0, 1);
        Check.due("the smallest patch", mesh.patchOf(0, 0), 0);
        Check.due("its area", mesh.patchOf(0, 5), 2);
        mesh.move(0, 1, 0, 0);
        Check.due("two corners in one place", mesh.patchOf(0, 0), 1);
    }

    private static int movedFold(int[] row) {
        ColourPatches mesh = new ColourPatches();
        mesh.move(row[0], row[1], row[2], row[3]);
        return mesh.patchOf(0, 0);
    }

    private static void area() {
        ColourPatches mesh = new ColourPatches();
        mesh.move(0, 0, 10, 20);
        mesh.move(1, 0, 310, 0);
        mesh.move(1, 1, 300, 250);
        mesh.move(0, 1, 0, 200);
        // 10*0 - 310*20, 310*250 - 300*0, 300*200 - 0*250, 0*20 - 10*200
        Check.due("area", mesh.patchOf(0, 5), -6200 + 77500 + 60000 - 2000);
        // Mirrored: gone around the other way, the sign falls away.
        mesh.move(0, 0, 310, 0);
        mesh.move(1, 0, 10, 20);
        mesh.move(1, 1, 0, 200);
        mesh.move(0, 1, 300, 250);
        Check.due("area mirrored", mesh.patchOf(0, 5), 129300);
        Check.due("mirrored is folded", mesh.patchOf(0, 0), 1);
    }

    private static void count() {
        ColourPatches mesh = new ColourPatches();
        mesh.hold(0, 0, 1, 1, 1);
        mesh.hold(1, 0, 1, 1, 1);
        mesh.hold(2, 0, 1, 2, 1);
        Check.due("unlike colours", mesh.count(6), 3);
        mesh.hold(3, 0, 1, 1, 2);
        Check.due("unlike colours", mesh.count(6), 4);
        mesh.free(0, 0);
        Check.due("held", mesh.count(0), 3);
        mesh.move(1, 1, 0, 0);
        Check.due("folded", mesh.count(1), 3);
        mesh.slope(0, 0, 0, 0, 0);
        mesh.slope(4, 3, 1, 2, 0);
        Check.due("told", mesh.count(2), 2);
        Check.due("states, four at most", mesh.count(3), 4);
        Check.write(mesh, "abc");
        Check.due("text", mesh.count(4), 3);
        mesh.keep();
        Check.due("snapshot", mesh.count(5), 1);
        for (int row = 0; row < 4; row++) {
            for (int column = 0; column < 5; column++) {
                mesh.hold(column, row, column, row, 0);
            }
        }
        Check.due("unlike colours, all", mesh.count(6), 20);
        Check.due("held, all", mesh.count(0), 20);
        Check.due("count(7)", mesh.count(7), Check.INVALID);
        Check.due("count(-1)", mesh.count(-1), Check.INVALID);
        for (int far : Check.FAR) {
            Check.due("far what", mesh.count(far), Check.INVALID);
        }
    }
}
