import java.util.HashSet;
import java.util.List;
import java.util.Set;

/** Promises 8 to 11: cornerOf, point, patchOf, count. */
public final class PointsTest {
    /** A, B, C and D of the document for 0 to 8, worked out by hand. */
    private static final int[] A = {512, 490, 432, 350, 256, 162, 80, 22, 0};
    private static final int[] B = {0, 22, 80, 162, 256, 350, 432, 490, 512};
    private static final int[] C = {0, 49, 72, 75, 64, 45, 24, 7, 0};
    private static final int[] D = {0, -7, -24, -45, -64, -75, -72, -49, 0};

    public static void main(String[] args) throws IllegalAccessException {
        Cases.run(PointsTest.class, args);
    }

    // ---- promise 8

    static void promise08CornerOfTellsEachOfThirteen() {
        ColourPatches mesh = new ColourPatches();
        mesh.move(3, 2, 601, 402);
        mesh.hold(3, 2, 11, 12, 13);
        for (int which = 0; which < 6; which++) {
            mesh.slope(3, 2, which / 3, which % 3, 20 + which);
        }
        int[] want = {601, 402, 11, 12, 13, 1, 20, 21, 22, 23, 24, 25, 6};
        for (int what = 0; what <= 12; what++) {
            Check.due("cornerOf(3, 2, " + what + ")", mesh.cornerOf(3, 2, what), want[what]);
        }
    }

    /** All thirteen of all twenty corners: 160 changes and 260 looks. */
    static void promise08CornerOfTellsAllOfEachCorner() {
        ColourPatches mesh = new ColourPatches();
        Look.colourAll(mesh);
        Look.placeAll(mesh);
        for (int which = 0; which < 120; which++) {
            mesh.slope(which / 6 % 5, which / 30, which / 3 % 2, which % 3, 2 * which - 120);
        }
        for (int corner = 0; corner < 20; corner++) {
            int column = corner % 5;
            int row = corner / 5;
            Check.due("x", mesh.cornerOf(column, row, 0), Look.xOfPlaceAll(column, row));
            Check.due("y", mesh.cornerOf(column, row, 1), Look.yOfPlaceAll(column, row));
            for (int part = 0; part <= 2; part++) {
                Check.due("part " + part, mesh.cornerOf(column, row, 2 + part), Look.partOfColourAll(column, row, part));
            }
            Check.due("held", mesh.cornerOf(column, row, 5), 1);
            for (int slope = 0; slope < 6; slope++) {
                Check.due("slope " + slope, mesh.cornerOf(column, row, 6 + slope), 12 * corner + 2 * slope - 120);
            }
            Check.due("told", mesh.cornerOf(column, row, 12), 6);
        }
    }

    static void promise08SlopesNotToldOfEveryCorner() {
        ColourPatches mesh = Look.behind(Look::colourAll);
        for (int which = 0; which < 120; which++) {
            int column = which / 6 % 5;
            int row = which / 30;
            int want = Look.slopeOfColourAll(column, row, which / 3 % 2, which % 3);
            Check.due("cornerOf(" + column + ", " + row + ", " + (6 + which % 6) + ")",
                    mesh.cornerOf(column, row, 6 + which % 6), want);
        }
    }

    static void promise08CornerOfFirstAndLastCorner() {
        ColourPatches mesh = new ColourPatches();
        mesh.move(0, 0, 1, 2);
        mesh.move(4, 3, 998, 997);
        mesh.hold(4, 3, 3, 4, 5);
        Check.due("x of the first", mesh.cornerOf(0, 0, 0), 1);
        Check.due("y of the first", mesh.cornerOf(0, 0, 1), 2);
        Check.due("held of the first", mesh.cornerOf(0, 0, 5), 0);
        Check.due("x of the last", mesh.cornerOf(4, 3, 0), 998);
        Check.due("y of the last", mesh.cornerOf(4, 3, 1), 997);
        Check.due("held of the last", mesh.cornerOf(4, 3, 5), 1);
    }

    static void promise08SlopesToldAreCountedFrom0To6() {
        ColourPatches mesh = new ColourPatches();
        for (int which = 0; which < 6; which++) {
            Check.due("told", mesh.cornerOf(1, 3, 12), which);
            mesh.slope(1, 3, which / 3, which % 3, 0);
        }
        Check.due("all told", mesh.cornerOf(1, 3, 12), 6);
    }

    /** Along row 2 part 0 is 0, 100, 51, 255, 254, part 1 is 255 less that, part 2 is part 0 the other way around. */
    private static ColourPatches bent() {
        ColourPatches mesh = new ColourPatches();
        int[] values = {0, 100, 51, 255, 254};
        for (int column = 0; column < 5; column++) {
            mesh.hold(column, 2, values[column], 255 - values[column], values[4 - column]);
        }
        return mesh;
    }

    static void promise08SlopesNotToldAlongTheRow() {
        int[][] want = {{100, -100, 1}, {25, -26, -102}, {77, -78, -78}, {101, -102, -26}, {-1, 1, -100}};
        for (int column = 0; column < 5; column++) {
            for (int part = 0; part < 3; part++) {
                Check.due("column " + column + ", part " + part, bent().cornerOf(column, 2, 6 + part), want[column][part]);
            }
        }
    }

    /** The rows of column 0 are 128, 128, (0, 255, 254), 128. */
    static void promise08SlopesNotToldAlongTheColumn() {
        int[][] want = {{0, 0, 0}, {-64, 63, 63}, {0, 0, 0}, {128, -127, -126}};
        for (int row = 0; row < 4; row++) {
            for (int part = 0; part < 3; part++) {
                Check.due("row " + row + ", part " + part, bent().cornerOf(0, row, 9 + part), want[row][part]);
            }
        }
    }

    // ---- promise 9

    static void promise09PointsAtTheCornersAreTheCorners() {
        for (int patch = 0; patch < 12; patch++) {
            ColourPatches mesh = new ColourPatches();
            Look.place(mesh, patch, new int[][] {{11, 12}, {985, 14}, {977, 988}, {19, 999}});
            Look.holdAt(mesh, patch, 0, 0, 0, 1, 2);
            Look.holdAt(mesh, patch, 8, 0, 255, 254, 253);
            Look.holdAt(mesh, patch, 8, 8, 30, 40, 50);
            Look.holdAt(mesh, patch, 0, 8, 60, 70, 80);
            due(mesh, patch, 0, 0, 0, 1, 2, 11, 12);
            due(mesh, patch, 8, 0, 255, 254, 253, 985, 14);
            due(mesh, patch, 8, 8, 30, 40, 50, 977, 988);
            due(mesh, patch, 0, 8, 60, 70, 80, 19, 999);
        }
    }

    private static void due(ColourPatches mesh, int patch, int u, int v, int... want) {
        for (int what = 0; what <= 4; what++) {
            Check.due("point(" + patch + ", " + u + ", " + v + ", " + what + ")", mesh.point(patch, u, v, what), want[what]);
        }
    }

    /** A patch whose slopes are told to be 0, with part 0 of its corners. */
    private static ColourPatches flat(int patch, int first, int byColumn, int byBoth, int byRow) {
        ColourPatches mesh = new ColourPatches();
        Look.flatten(mesh, patch, 0);
        Look.holdAt(mesh, patch, 0, 0, first, 0, 0);
        Look.holdAt(mesh, patch, 8, 0, byColumn, 0, 0);
        Look.holdAt(mesh, patch, 8, 8, byBoth, 0, 0);
        Look.holdAt(mesh, patch, 0, 8, byRow, 0, 0);
        return mesh;
    }

    static void promise09ColoursByPartsAloneAlongU() {
        ColourPatches mesh = flat(0, 0, 255, 255, 0);
        for (int u = 0; u <= 8; u++) {
            for (int v = 0; v <= 8; v++) {
                Check.due("u " + u + ", v " + v, mesh.point(0, u, v, 0), 255 * B[u] / 512);
            }
        }
    }

    static void promise09ColoursByPartsAloneAlongV() {
        ColourPatches mesh = flat(11, 255, 255, 0, 0);
        for (int u = 0; u <= 8; u++) {
            for (int v = 0; v <= 8; v++) {
                Check.due("u " + u + ", v " + v, mesh.point(11, u, v, 0), 255 * A[v] / 512);
            }
        }
    }

    static void promise09ColoursByOneCornerAlone() {
        for (int u = 0; u <= 8; u++) {
            for (int v = 0; v <= 8; v++) {
                Check.due("(0, 0)", flat(5, 255, 0, 0, 0).point(5, u, v, 0), 255 * A[u] * A[v] / 262144);
                Check.due("(8, 0)", flat(5, 0, 255, 0, 0).point(5, u, v, 0), 255 * B[u] * A[v] / 262144);
                Check.due("(8, 8)", flat(5, 0, 0, 255, 0).point(5, u, v, 0), 255 * B[u] * B[v] / 262144);
                Check.due("(0, 8)", flat(5, 0, 0, 0, 255).point(5, u, v, 0), 255 * A[u] * B[v] / 262144);
            }
        }
    }

    private static ColourPatches sloped(int column, int row, int along, int slope) {
        ColourPatches mesh = flat(0, 100, 100, 100, 100);
        mesh.slope(column, row, along, 0, slope);
        return mesh;
    }

    static void promise09ColoursBySlopesAlongTheRow() {
        for (int u = 0; u <= 8; u++) {
            for (int v = 0; v <= 8; v++) {
                sum(sloped(0, 0, 0, 200), u, v, 200 * C[u] * A[v]);
                sum(sloped(1, 0, 0, 200), u, v, 200 * D[u] * A[v]);
                sum(sloped(1, 1, 0, 200), u, v, 200 * D[u] * B[v]);
                sum(sloped(0, 1, 0, 200), u, v, 200 * C[u] * B[v]);
            }
        }
    }

    static void promise09ColoursBySlopesAlongTheColumn() {
        for (int u = 0; u <= 8; u++) {
            for (int v = 0; v <= 8; v++) {
                sum(sloped(0, 0, 1, -200), u, v, -200 * A[u] * C[v]);
                sum(sloped(1, 0, 1, -200), u, v, -200 * B[u] * C[v]);
                sum(sloped(1, 1, 1, -200), u, v, -200 * B[u] * D[v]);
                sum(sloped(0, 1, 1, -200), u, v, -200 * A[u] * D[v]);
            }
        }
    }

    private static void sum(ColourPatches mesh, int u, int v, int bySlope) {
        Check.due("u " + u + ", v " + v, mesh.point(0, u, v, 0), Math.floorDiv(100 * 262144 + bySlope, 262144));
    }

    /** At (4, 0) a slope of 255 at (0, 0) adds 255 * 64 / 512, which is 31. */
    static void promise09ColoursAbove255Are255() {
        ColourPatches mesh = flat(0, 255, 255, 255, 255);
        mesh.slope(0, 0, 0, 0, 255);
        Check.due("far above", mesh.point(0, 4, 0, 0), 255);
        mesh.slope(0, 0, 0, 0, 8);
        Check.due("256", mesh.point(0, 4, 0, 0), 255);
        mesh.slope(0, 0, 0, 0, -8);
        Check.due("254", mesh.point(0, 4, 0, 0), 254);
    }

    static void promise09ColoursOf255AreNotLowered() {
        ColourPatches mesh = flat(0, 254, 254, 254, 254);
        mesh.slope(0, 0, 0, 0, 8);
        Check.due("255", mesh.point(0, 4, 0, 0), 255);
        mesh.slope(0, 0, 0, 0, 16);
        Check.due("256", mesh.point(0, 4, 0, 0), 255);
    }

    static void promise09ColoursBelow0Are0() {
        ColourPatches mesh = flat(0, 0, 0, 0, 0);
        mesh.slope(0, 0, 0, 0, -255);
        Check.due("far below", mesh.point(0, 4, 0, 0), 0);
        mesh.slope(0, 0, 0, 0, -8);
        Check.due("-1", mesh.point(0, 4, 0, 0), 0);
        mesh.slope(0, 0, 0, 0, 8);
        Check.due("1", mesh.point(0, 4, 0, 0), 1);
    }

    static void promise09ColoursOf0AreNotRaised() {
        ColourPatches mesh = flat(0, 1, 1, 1, 1);
        mesh.slope(0, 0, 0, 0, -8);
        Check.due("0", mesh.point(0, 4, 0, 0), 0);
        mesh.slope(0, 0, 0, 0, -16);
        Check.due("-1", mesh.point(0, 4, 0, 0), 0);
    }

    static void promise09ColoursAreRoundedDown() {
        ColourPatches mesh = flat(0, 100, 100, 100, 100);
        mesh.slope(0, 0, 0, 0, 7);
        Check.due("a bit below 101", mesh.point(0, 4, 0, 0), 100);
        mesh.slope(0, 0, 0, 0, -1);
        Check.due("a bit below 100", mesh.point(0, 4, 0, 0), 99);
        mesh.slope(0, 0, 0, 0, -8);
        Check.due("99", mesh.point(0, 4, 0, 0), 99);
        mesh.slope(0, 0, 0, 0, -9);
        Check.due("a bit below 99", mesh.point(0, 4, 0, 0), 98);
    }

    /** The sums are 4 less than 16, 10 and 116 times 262144, and 10 times it. */
    static void promise09ColoursJustBelowAWholeOneAreRoundedDown() {
        Check.due("below 16", flat(0, 0, 126, 180, 255).point(0, 1, 1, 0), 15);
        Check.due("below 10", flat(0, 5, 24, 174, 100).point(0, 1, 1, 0), 9);
        Check.due("below 116", flat(6, 0, 26, 153, 50).point(6, 5, 7, 0), 115);
        Check.due("10", flat(0, 10, 9, 255, 0).point(0, 1, 1, 0), 10);
    }

    /** The colour of a point by the sum of the document, with slopes that are told or not. */
    private static int partByTheSum(int patch, int u, int v, int part, boolean told) {
        int sum = 0;
        for (int which = 0; which < 4; which++) {
            int column = patch % 4 + which % 2;
            int row = patch / 4 + which / 2;
            int p = which % 2 == 0 ? A[u] : B[u];
            int q = which / 2 == 0 ? A[v] : B[v];
            int r = which % 2 == 0 ? C[u] : D[u];
            int s = which / 2 == 0 ? C[v] : D[v];
            int byRow = told ? toldSlope(which, 0, part) : Look.slopeOfColourAll(column, row, 0, part);
            int byColumn = told ? toldSlope(which, 1, part) : Look.slopeOfColourAll(column, row, 1, part);
            sum += Look.partOfColourAll(column, row, part) * p * q + byRow * r * q + byColumn * p * s;
        }
        return Math.max(0, Math.min(255, Math.floorDiv(sum, 262144)));
    }

    private static int toldSlope(int which, int along, int part) {
        return 70 * which - 41 * along - 83 * part;
    }

    static void promise09ColoursByPartsAndSlopesNotTold() {
        for (int patch = 0; patch < 12; patch++) {
            colours(Look.behind(Look::colourAll), patch, false);
        }
    }

    static void promise09ColoursByPartsAndSlopesTold() {
        for (int patch = 0; patch < 12; patch++) {
            ColourPatches mesh = Look.behind(Look::colourAll);
            for (int slope = 0; slope < 24; slope++) {
                int which = slope / 6;
                int along = slope / 3 % 2;
                int part = slope % 3;
                mesh.slope(patch % 4 + which % 2, patch / 4 + which / 2, along, part, toldSlope(which, along, part));
            }
            colours(mesh, patch, true);
        }
    }

    private static void colours(ColourPatches mesh, int patch, boolean told) {
        for (int at = 0; at < 243; at++) {
            int u = at / 3 % 9;
            int v = at / 27;
            Check.due("point(" + patch + ", " + u + ", " + v + ", " + at % 3 + ")", mesh.point(patch, u, v, at % 3),
                    partByTheSum(patch, u, v, at % 3, told));
        }
    }

    static void promise09ColoursTellEachPart() {
        ColourPatches mesh = new ColourPatches();
        Look.holdAll(mesh, 1, 2, 3);
        for (int part = 0; part <= 2; part++) {
            Check.due("part " + part, mesh.point(6, 3, 5, part), 1 + part);
        }
    }

    static void promise09PlacesOfANewMesh() {
        for (int patch = 0; patch < 12; patch++) {
            ColourPatches mesh = new ColourPatches();
            for (int u = 0; u <= 8; u++) {
                for (int v = 0; v <= 8; v++) {
                    Check.due("x", mesh.point(patch, u, v, 3), 200 * (patch % 4) + 25 * u);
                    Check.due("y", mesh.point(patch, u, v, 4), 200 * (patch / 4) + 25 * v);
                }
            }
        }
    }

    static void promise09PlacesAreRoundedDown() {
        ColourPatches mesh = new ColourPatches();
        Look.place(mesh, 0, new int[][] {{0, 0}, {0, 0}, {1, 999}, {0, 0}});
        Check.due("x of 64 / 64", mesh.point(0, 8, 8, 3), 1);
        Check.due("x of 56 / 64", mesh.point(0, 7, 8, 3), 0);
        Check.due("x of 56 / 64", mesh.point(0, 8, 7, 3), 0);
        Check.due("y of 999 * 56 / 64", mesh.point(0, 7, 8, 4), 874);
        Check.due("y of 999 / 64", mesh.point(0, 1, 1, 4), 15);
        Check.due("y of 0", mesh.point(0, 0, 1, 4), 0);
    }

    /** At (1, 1) the corners count 49, 7, 1 and 7 times. */
    static void promise09PlacesJustBelowAWholeOneAreRoundedDown() {
        ColourPatches mesh = new ColourPatches();
        Look.place(mesh, 0, new int[][] {{0, 1}, {4, 1}, {0, 7}, {5, 0}});
        Check.due("x of 63 / 64", mesh.point(0, 1, 1, 3), 0);
        Check.due("y of 63 / 64", mesh.point(0, 1, 1, 4), 0);
        Look.place(mesh, 0, new int[][] {{0, 1}, {4, 1}, {1, 8}, {5, 0}});
        Check.due("x of 64 / 64", mesh.point(0, 1, 1, 3), 1);
        Check.due("y of 64 / 64", mesh.point(0, 1, 1, 4), 1);
    }

    static void promise09PlacesByOneCornerAlone() {
        int[][] corners = {{0, 0}, {8, 0}, {8, 8}, {0, 8}};
        for (int which = 0; which < 4; which++) {
            ColourPatches mesh = new ColourPatches();
            int[][] places = {{0, 0}, {0, 0}, {0, 0}, {0, 0}};
            places[which] = new int[] {999, 640};
            Look.place(mesh, 6, places);
            for (int u = 0; u <= 8; u++) {
                for (int v = 0; v <= 8; v++) {
                    int weight = (8 - Math.abs(u - corners[which][0])) * (8 - Math.abs(v - corners[which][1]));
                    Check.due("x", mesh.point(6, u, v, 3), 999 * weight / 64);
                    Check.due("y", mesh.point(6, u, v, 4), 10 * weight);
                }
            }
        }
    }

    static void promise09PlacesByFourCorners() {
        for (int patch = 0; patch < 12; patch++) {
            ColourPatches mesh = Look.behind(Look::placeAll);
            for (int at = 0; at < 81; at++) {
                int u = at % 9;
                int v = at / 9;
                int x = 0;
                int y = 0;
                for (int which = 0; which < 4; which++) {
                    int weight = (which % 2 == 0 ? 8 - u : u) * (which / 2 == 0 ? 8 - v : v);
                    x += weight * Look.xOfPlaceAll(patch % 4 + which % 2, patch / 4 + which / 2);
                    y += weight * Look.yOfPlaceAll(patch % 4 + which % 2, patch / 4 + which / 2);
                }
                Check.due("x of " + patch + ", " + u + ", " + v, mesh.point(patch, u, v, 3), x / 64);
                Check.due("y of " + patch + ", " + u + ", " + v, mesh.point(patch, u, v, 4), y / 64);
            }
        }
    }

    // ---- promise 10

    /** Corners as they are gone around: the turn at the third one is 1, 0 or -1, the others are above 1. */
    private static final int[][] TURN_OF_1 = {{0, 0}, {3, 0}, {2, 1}, {0, 2}};
    private static final int[][] TURN_OF_0 = {{0, 0}, {2, 0}, {1, 1}, {0, 2}};
    private static final int[][] TURN_BELOW_0 = {{0, 0}, {3, 0}, {1, 1}, {0, 2}};

    /** 1 if patch 5 is folded, when that turn is at its corner of this number, as they are gone around. */
    private static int folded(int[][] places, int corner) {
        int[][] turned = new int[4][];
        for (int which = 0; which < 4; which++) {
            turned[(which + corner + 2) % 4] = places[which];
        }
        ColourPatches mesh = new ColourPatches();
        Look.place(mesh, 5, turned);
        return mesh.patchOf(5, 0);
    }

    static void promise10ATurnOf1AtEachCornerIsNotFolded() {
        for (int corner = 0; corner < 4; corner++) {
            Check.due("corner " + corner, folded(TURN_OF_1, corner), 0);
        }
    }

    static void promise10ATurnOf0AtEachCornerIsFolded() {
        for (int corner = 0; corner < 4; corner++) {
            Check.due("corner " + corner, folded(TURN_OF_0, corner), 1);
        }
    }

    static void promise10ATurnBelow0AtEachCornerIsFolded() {
        for (int corner = 0; corner < 4; corner++) {
            Check.due("corner " + corner, folded(TURN_BELOW_0, corner), 1);
        }
    }

    static void promise10TheSmallestPatchIsNotFolded() {
        ColourPatches mesh = new ColourPatches();
        Look.place(mesh, 0, new int[][] {{0, 0}, {1, 0}, {1, 1}, {0, 1}});
        Check.due("folded", mesh.patchOf(0, 0), 0);
        Check.due("area", mesh.patchOf(0, 5), 2);
    }

    static void promise10TheGreatestPatchIsNotFolded() {
        ColourPatches mesh = new ColourPatches();
        Look.place(mesh, 0, new int[][] {{0, 0}, {999, 0}, {999, 999}, {0, 999}});
        Check.due("folded", mesh.patchOf(0, 0), 0);
        Check.due("area", mesh.patchOf(0, 5), 2 * 999 * 999);
    }

    static void promise10APatchGoneAroundTheOtherWayIsFoldedAndItsAreaHasNoSign() {
        ColourPatches mesh = new ColourPatches();
        Look.place(mesh, 0, new int[][] {{0, 0}, {0, 999}, {999, 999}, {999, 0}});
        Check.due("folded", mesh.patchOf(0, 0), 1);
        Check.due("area", mesh.patchOf(0, 5), 2 * 999 * 999);
    }

    static void promise10TwoCornersInOnePlaceAreFolded() {
        ColourPatches mesh = new ColourPatches();
        Look.place(mesh, 0, new int[][] {{0, 0}, {1, 0}, {1, 1}, {0, 0}});
        Check.due("folded", mesh.patchOf(0, 0), 1);
        Check.due("area", mesh.patchOf(0, 5), 1);
    }

    static void promise10AllCornersInOnePlaceHaveNoArea() {
        ColourPatches mesh = new ColourPatches();
        Look.place(mesh, 0, new int[][] {{5, 6}, {5, 6}, {5, 6}, {5, 6}});
        Check.due("folded", mesh.patchOf(0, 0), 1);
        Check.due("area", mesh.patchOf(0, 5), 0);
    }

    static void promise10APatchThatCrossesItselfHasNoAreaLeft() {
        ColourPatches mesh = new ColourPatches();
        Look.place(mesh, 0, new int[][] {{0, 0}, {100, 100}, {100, 0}, {0, 100}});
        Check.due("folded", mesh.patchOf(0, 0), 1);
        Check.due("area", mesh.patchOf(0, 5), 0);
    }

    static void promise10AreaOfAnUnevenPatch() {
        ColourPatches mesh = new ColourPatches();
        Look.place(mesh, 0, new int[][] {{10, 20}, {310, 0}, {300, 250}, {0, 200}});
        // 10 * 0 - 310 * 20, 310 * 250 - 300 * 0, 300 * 200 - 0 * 250, 0 * 20 - 10 * 200
        Check.due("area", mesh.patchOf(0, 5), -6200 + 77500 + 60000 - 2000);
    }

    static void promise10OneColour() {
        ColourPatches mesh = new ColourPatches();
        for (int patch = 0; patch < 12; patch++) {
            Check.due("patch " + patch, mesh.patchOf(patch, 1), 1);
        }
    }

    static void promise10EightyOneUnlikeColours() {
        ColourPatches mesh = new ColourPatches();
        Look.flatten(mesh, 0, 0);
        Look.holdAt(mesh, 0, 0, 0, 0, 7, 0);
        Look.holdAt(mesh, 0, 8, 0, 255, 7, 0);
        Look.holdAt(mesh, 0, 8, 8, 255, 7, 255);
        Look.holdAt(mesh, 0, 0, 8, 0, 7, 255);
        Check.due("unlike colours", mesh.patchOf(0, 1), 81);
    }

    /** The sum of parts 0 and 1 is 254 or 255 everywhere, the colours are nine. */
    static void promise10ColoursOfOneSumAreUnlike() {
        ColourPatches mesh = new ColourPatches();
        Look.flatten(mesh, 0, 0);
        for (int v = 0; v <= 8; v += 8) {
            Look.holdAt(mesh, 0, 0, v, 0, 255, 0);
            Look.holdAt(mesh, 0, 8, v, 255, 0, 0);
        }
        Check.due("unlike colours", mesh.patchOf(0, 1), 9);
        Check.due("greatest sum", mesh.patchOf(0, 2), 255);
        Check.due("least sum", mesh.patchOf(0, 3), 254);
    }

    static void promise10ColoursUnlikeInEachSinglePart() {
        for (int part = 0; part <= 2; part++) {
            ColourPatches mesh = new ColourPatches();
            Look.flatten(mesh, 0, 0);
            for (int v = 0; v <= 8; v += 8) {
                Look.holdAt(mesh, 0, 0, v, 0, 0, 0);
                Look.holdAt(mesh, 0, 8, v, part == 0 ? 255 : 0, part == 1 ? 255 : 0, part == 2 ? 255 : 0);
            }
            Check.due("part " + part, mesh.patchOf(0, 1), 9);
        }
    }

    static void promise10LeastSumIs0() {
        ColourPatches mesh = new ColourPatches();
        Look.holdAll(mesh, 0, 0, 0);
        Check.due("least", mesh.patchOf(11, 3), 0);
        Check.due("greatest", mesh.patchOf(11, 2), 0);
    }

    static void promise10GreatestSumIs765() {
        ColourPatches mesh = new ColourPatches();
        Look.holdAll(mesh, 255, 255, 255);
        Check.due("greatest", mesh.patchOf(0, 2), 765);
        Check.due("least", mesh.patchOf(0, 3), 765);
    }

    /** At each of the four corners, the first and the last point included. */
    static void promise10GreatestAndLeastSumAtEachCorner() {
        for (int corner = 0; corner < 4; corner++) {
            ColourPatches mesh = new ColourPatches();
            Look.flatten(mesh, 6, 0);
            Look.holdAt(mesh, 6, corner % 2 * 8, corner / 2 * 8, 200, 201, 202);
            Check.due("greatest", mesh.patchOf(6, 2), 603);
            Check.due("least", mesh.patchOf(6, 3), 384);
            mesh.hold(2 + corner % 2, 1 + corner / 2, 3, 4, 5);
            Check.due("greatest", mesh.patchOf(6, 2), 384);
            Check.due("least", mesh.patchOf(6, 3), 12);
        }
    }

    /** By a slope at (0, 0) the greatest and the least sum are at (1, 0) alone, or at (0, 1) alone. */
    static void promise10GreatestAndLeastSumBesideACorner() {
        for (int along = 0; along <= 1; along++) {
            ColourPatches hill = flat(0, 100, 0, 0, 0);
            hill.slope(0, 0, along, 0, 100);
            Check.due("greatest", hill.patchOf(0, 2), (100 * B[7] + 100 * C[1]) / 512);
            ColourPatches valley = flat(0, 155, 255, 255, 255);
            valley.slope(0, 0, along, 0, -100);
            Check.due("least", valley.patchOf(0, 3), (155 * A[1] + 255 * B[1] - 100 * C[1]) / 512);
        }
    }

    static void promise10ColoursAndSumsAreThoseOfThePoints() {
        for (int patch = 0; patch < 12; patch++) {
            ColourPatches mesh = Look.behind(Look::colourAll);
            Set<List<Integer>> unlike = new HashSet<>();
            int greatest = 0;
            int least = 765;
            for (int at = 0; at < 81; at++) {
                int one = mesh.point(patch, at % 9, at / 9, 0);
                int two = mesh.point(patch, at % 9, at / 9, 1);
                int three = mesh.point(patch, at % 9, at / 9, 2);
                unlike.add(List.of(one, two, three));
                greatest = Math.max(greatest, one + two + three);
                least = Math.min(least, one + two + three);
            }
            Check.due("unlike colours of " + patch, mesh.patchOf(patch, 1), unlike.size());
            Check.due("greatest sum of " + patch, mesh.patchOf(patch, 2), greatest);
            Check.due("least sum of " + patch, mesh.patchOf(patch, 3), least);
        }
    }

    static void promise10AreaOfEachPatch() {
        ColourPatches mesh = Look.behind(Look::placeAll);
        for (int patch = 0; patch < 12; patch++) {
            int[] around = {0, 1, 3, 2};
            int area = 0;
            for (int turn = 0; turn < 4; turn++) {
                int corner = around[turn];
                int next = around[(turn + 1) % 4];
                int column = patch % 4;
                int row = patch / 4;
                area += Look.xOfPlaceAll(column + corner % 2, row + corner / 2) * Look.yOfPlaceAll(column + next % 2, row + next / 2)
                        - Look.xOfPlaceAll(column + next % 2, row + next / 2) * Look.yOfPlaceAll(column + corner % 2, row + corner / 2);
            }
            Check.due("area of " + patch, mesh.patchOf(patch, 5), Math.abs(area));
        }
    }

    static void promise10HeldCornersFrom0To4() {
        ColourPatches mesh = new ColourPatches();
        int[][] corners = {{1, 1}, {2, 1}, {1, 2}, {2, 2}};
        for (int held = 0; held < 4; held++) {
            Check.due("held", mesh.patchOf(5, 4), held);
            mesh.hold(corners[held][0], corners[held][1], 1, 2, 3);
        }
        Check.due("all held", mesh.patchOf(5, 4), 4);
        Check.due("the patch beside", mesh.patchOf(6, 4), 2);
        Check.due("the patch below", mesh.patchOf(9, 4), 2);
        Check.due("the patch across", mesh.patchOf(10, 4), 1);
        Check.due("a patch away", mesh.patchOf(7, 4), 0);
        Check.due("another patch away", mesh.patchOf(11, 4), 0);
    }

    // ---- promise 11

    static void promise11HeldCornersFrom0To20() {
        ColourPatches mesh = new ColourPatches();
        Check.due("none", mesh.count(0), 0);
        Look.holdAll(mesh, 1, 1, 1);
        Check.due("all", mesh.count(0), 20);
        Look.freeAll(mesh);
        Check.due("none again", mesh.count(0), 0);
    }

    static void promise11FoldedPatchesFrom0To12() {
        ColourPatches mesh = new ColourPatches();
        Check.due("none", mesh.count(1), 0);
        mesh.move(1, 1, 0, 0);
        Check.due("three", mesh.count(1), 3);
        for (int corner = 0; corner < 20; corner++) {
            mesh.move(corner % 5, corner / 5, 7, 7);
        }
        Check.due("all", mesh.count(1), 12);
    }

    static void promise11ToldSlopesFrom0To120() {
        ColourPatches mesh = new ColourPatches();
        for (int which = 0; which < 120; which++) {
            Check.due("told", mesh.count(2), which);
            mesh.slope(which / 6 % 5, which / 30, which / 3 % 2, which % 3, 0);
        }
        Check.due("all told", mesh.count(2), 120);
    }

    static void promise11StatesFrom0To4() {
        ColourPatches mesh = new ColourPatches();
        for (int changes = 0; changes <= 9; changes++) {
            Check.due("behind " + changes, mesh.count(3), Math.min(changes, 4));
            mesh.move(0, 0, changes, changes);
        }
    }

    static void promise11LengthOfTheTextFrom0To60() {
        ColourPatches mesh = new ColourPatches();
        for (int length = 0; length < 60; length++) {
            Check.due("length", mesh.count(4), length);
            mesh.type(32 + length);
        }
        Check.due("full", mesh.count(4), 60);
        mesh.type(99);
        Check.due("one sign more", mesh.count(4), 60);
    }

    static void promise11SnapshotIs0Or1() {
        ColourPatches mesh = new ColourPatches();
        Check.due("none", mesh.count(5), 0);
        mesh.keep();
        Check.due("one", mesh.count(5), 1);
        mesh.keep();
        Check.due("another one in its place", mesh.count(5), 1);
    }

    static void promise11UnlikeColoursFrom1To20() {
        ColourPatches mesh = new ColourPatches();
        for (int corner = 0; corner < 20; corner++) {
            mesh.hold(corner % 5, corner / 5, 128, 128, 128 - corner);
            Check.due("unlike colours", mesh.count(6), corner + 1);
        }
    }

    static void promise11UnlikeColoursInEachSinglePart() {
        ColourPatches mesh = new ColourPatches();
        mesh.hold(0, 0, 127, 128, 128);
        Check.due("part 0", mesh.count(6), 2);
        mesh.hold(4, 3, 128, 127, 128);
        Check.due("part 1", mesh.count(6), 3);
        mesh.hold(2, 2, 128, 128, 127);
        Check.due("part 2", mesh.count(6), 4);
        mesh.hold(1, 1, 127, 128, 128);
        Check.due("as the first one", mesh.count(6), 4);
    }

    /** Each colour is a power of two in one of its parts. */
    static void promise11UnlikeColoursOfNeighbouringParts() {
        ColourPatches mesh = new ColourPatches();
        Look.holdAll(mesh, 0, 0, 0);
        for (int power = 0; power < 8; power++) {
            mesh.hold(power % 5, power / 5, 1 << power, 0, 0);
            mesh.hold((8 + power) % 5, (8 + power) / 5, 0, 1 << power, 0);
        }
        mesh.hold(1, 3, 0, 0, 1);
        mesh.hold(2, 3, 0, 0, 2);
        mesh.hold(3, 3, 0, 0, 128);
        Check.due("unlike colours", mesh.count(6), 20);
    }

    static void promise11UnlikeColoursDoNotAskWhetherHeld() {
        ColourPatches mesh = new ColourPatches();
        mesh.hold(0, 0, 1, 2, 3);
        mesh.hold(1, 0, 1, 2, 3);
        mesh.free(1, 0);
        Check.due("unlike colours", mesh.count(6), 2);
    }
}
