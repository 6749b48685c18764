import java.util.function.Consumer;

/** Promises 12 to 16: agrees, crease, level, nearest, calm. */
public final class EdgesTest {
    public static void main(String[] args) throws IllegalAccessException {
        Cases.run(EdgesTest.class, args);
    }

    private static void uneven(ColourPatches mesh) {
        mesh.hold(1, 1, 255, 0, 17);
        mesh.hold(2, 1, 0, 255, 18);
        mesh.hold(1, 2, 3, 200, 90);
        mesh.slope(1, 1, 0, 0, 255);
        mesh.slope(2, 1, 1, 1, -255);
        mesh.slope(1, 1, 0, 1, -200);
    }

    // ---- promise 12

    static void promise12AgreesAtTheLastColumnIsNotFound() {
        ColourPatches mesh = Look.behind(EdgesTest::uneven);
        Check.due("patch 3", mesh.agrees(3, 0), Check.NOT_FOUND);
        Check.due("patch 7", mesh.agrees(7, 0), Check.NOT_FOUND);
        Check.due("patch 11", mesh.agrees(11, 0), Check.NOT_FOUND);
    }

    static void promise12AgreesAtTheLastRowIsNotFound() {
        ColourPatches mesh = Look.behind(EdgesTest::uneven);
        for (int patch = 8; patch <= 11; patch++) {
            Check.due("patch " + patch, mesh.agrees(patch, 1), Check.NOT_FOUND);
        }
    }

    static void promise12AgreesWithTheNextColumn() {
        ColourPatches mesh = Look.behind(EdgesTest::uneven);
        for (int patch : new int[] {0, 1, 2, 4, 5, 6, 8, 9, 10}) {
            Check.due("patch " + patch, mesh.agrees(patch, 0), 1);
        }
    }

    static void promise12AgreesWithTheNextRow() {
        ColourPatches mesh = Look.behind(EdgesTest::uneven);
        for (int patch = 0; patch <= 7; patch++) {
            Check.due("patch " + patch, mesh.agrees(patch, 1), 1);
        }
    }

    /** 54 looks at points for each of the edges. */
    static void promise12AgreesIsWhatThePointsOfTheEdgeTell() {
        for (int edge = 0; edge < 24; edge++) {
            int patch = edge / 2;
            int side = edge % 2;
            int beside = side == 0 ? patch + 1 : patch + 4;
            if (side == 0 && patch % 4 == 3 || beside > 11) {
                continue;
            }
            ColourPatches mesh = Look.behind(Look::colourAll);
            mesh.slope(patch % 4 + 1, patch / 4 + side, 1 - side, 0, 200);
            mesh.slope(patch % 4 + 1, patch / 4 + 1, side, 1, -200);
            int alike = 1;
            for (int at = 0; at <= 8; at++) {
                for (int part = 0; part <= 2; part++) {
                    int last = side == 0 ? mesh.point(patch, 8, at, part) : mesh.point(patch, at, 8, part);
                    int first = side == 0 ? mesh.point(beside, 0, at, part) : mesh.point(beside, at, 0, part);
                    alike = last == first ? alike : 0;
                }
            }
            Check.due("patch " + patch + ", side " + side, mesh.agrees(patch, side), alike);
        }
    }

    static void promise12AgreesWhenPatchesAreFolded() {
        ColourPatches mesh = Look.behind(EdgesTest::uneven);
        mesh.move(1, 1, 999, 999);
        Check.due("by columns", mesh.agrees(0, 0), 1);
        Check.due("by rows", mesh.agrees(0, 1), 1);
    }

    // ---- promise 13

    static void promise13CreaseAtTheLastColumnIsNotFound() {
        ColourPatches mesh = Look.behind(EdgesTest::uneven);
        for (int at = 0; at <= 8; at++) {
            Check.due("patch 3", mesh.crease(3, 0, at, 0), Check.NOT_FOUND);
            Check.due("patch 7", mesh.crease(7, 0, at, 1), Check.NOT_FOUND);
            Check.due("patch 11", mesh.crease(11, 0, at, 2), Check.NOT_FOUND);
        }
    }

    static void promise13CreaseAtTheLastRowIsNotFound() {
        ColourPatches mesh = Look.behind(EdgesTest::uneven);
        for (int patch = 8; patch <= 11; patch++) {
            for (int at = 0; at <= 8; at++) {
                Check.due("patch " + patch, mesh.crease(patch, 1, at, 0), Check.NOT_FOUND);
            }
        }
    }

    static void promise13CreaseAtTheLastColumnWithTheNextRowIsFound() {
        ColourPatches mesh = new ColourPatches();
        Check.due("patch 3", mesh.crease(3, 1, 8, 2), 0);
        Check.due("patch 7", mesh.crease(7, 1, 8, 2), 0);
    }

    static void promise13CreaseAtTheLastRowWithTheNextColumnIsFound() {
        ColourPatches mesh = new ColourPatches();
        Check.due("patch 8", mesh.crease(8, 0, 8, 2), 0);
        Check.due("patch 10", mesh.crease(10, 0, 8, 2), 0);
    }

    static void promise13CreaseOfAnEvenMeshIs0() {
        ColourPatches mesh = new ColourPatches();
        for (int at = 0; at <= 8; at++) {
            Check.due("by columns", mesh.crease(5, 0, at, 1), 0);
            Check.due("by rows", mesh.crease(5, 1, at, 1), 0);
        }
    }

    /** The crease by the points of both patches, for each place of the edge and each part. */
    private static void byPoints(int patch, int side) {
        int behind = side == 0 ? patch + 1 : patch + 4;
        for (int part = 0; part <= 2; part++) {
            ColourPatches mesh = Look.behind(EdgesTest::uneven);
            for (int at = 0; at <= 8; at++) {
                int before = side == 0 ? mesh.point(patch, 7, at, part) : mesh.point(patch, at, 7, part);
                int edge = side == 0 ? mesh.point(patch, 8, at, part) : mesh.point(patch, at, 8, part);
                int after = side == 0 ? mesh.point(behind, 1, at, part) : mesh.point(behind, at, 1, part);
                int due = Math.abs((before - edge) - (edge - after));
                Check.due("patch " + patch + " at " + at + ", part " + part, mesh.crease(patch, side, at, part), due);
            }
        }
    }

    static void promise13CreaseFrom0To8ByColumns() {
        for (int patch : new int[] {0, 1, 2, 4, 5, 6, 8, 9, 10}) {
            byPoints(patch, 0);
        }
    }

    static void promise13CreaseFrom0To8ByRows() {
        for (int patch = 0; patch <= 7; patch++) {
            byPoints(patch, 1);
        }
    }

    /** Part 0 along row 0 is 128, then this, then 128, with slopes that are told to be 0. */
    private static int creaseAround(int value) {
        ColourPatches mesh = new ColourPatches();
        for (int column = 0; column <= 2; column++) {
            mesh.slope(column, 0, 0, 0, 0);
        }
        mesh.hold(1, 0, value, 0, 0);
        return mesh.crease(0, 0, 0, 0);
    }

    /** At 7 and at 1 it is (128 * 22 + value * 490) / 512, rounded down. */
    static void promise13CreaseHasNoSign() {
        Check.due("a valley: 101, 100, 101", creaseAround(100), 2);
        Check.due("a hill: 154, 156, 154", creaseAround(156), 4);
        Check.due("neither", creaseAround(128), 0);
        Check.due("the deepest valley: 5, 0, 5", creaseAround(0), 10);
        Check.due("the highest hill: 249, 255, 249", creaseAround(255), 12);
    }

    /** Ahead it would be 279, or -24, which are 255 and 0; behind it is 230, or 24. */
    static void promise13CreaseIsOfColoursFrom0To255() {
        ColourPatches above = new ColourPatches();
        Look.holdAll(above, 255, 255, 255);
        above.slope(1, 0, 0, 0, -255);
        Check.due("255, 255, 230", above.crease(0, 0, 0, 0), 25);
        ColourPatches below = new ColourPatches();
        Look.holdAll(below, 0, 0, 0);
        below.slope(0, 1, 1, 2, 255);
        Check.due("0, 0, 24", below.crease(0, 1, 0, 2), 24);
    }

    // ---- promise 14

    /** Part 1 of patch 0 by u: 0, 10, 39, 80, 127, 174, 215, 244, 255, nine points each. */
    private static ColourPatches byU() {
        ColourPatches mesh = new ColourPatches();
        Look.flatten(mesh, 0, 0);
        for (int v = 0; v <= 8; v += 8) {
            Look.holdAt(mesh, 0, 0, v, 9, 0, 9);
            Look.holdAt(mesh, 0, 8, v, 9, 255, 9);
        }
        return mesh;
    }

    static void promise14LevelOfAll() {
        Check.due("0 to 255", byU().level(0, 1, 0, 255), 81);
        Check.due("another patch", byU().level(11, 2, 128, 128), 81);
    }

    /** Part 0 is 255 at one corner, and falls to 0 both by u and by v. */
    static void promise14LevelByBothUAndV() {
        ColourPatches mesh = new ColourPatches();
        Look.flatten(mesh, 6, 0);
        for (int corner = 0; corner < 4; corner++) {
            Look.holdAt(mesh, 6, corner % 2 * 8, corner / 2 * 8, corner == 0 ? 255 : 0, 0, 0);
        }
        int[] values = {512, 490, 432, 350, 256, 162, 80, 22, 0};
        for (int low = 0; low <= 255; low += 15) {
            int points = 0;
            for (int at = 0; at < 81; at++) {
                int part = 255 * values[at % 9] * values[at / 9] / 262144;
                points += part >= low && part <= low + 20 ? 1 : 0;
            }
            Check.due("from " + low, mesh.level(6, 0, low, low + 20), points);
        }
    }

    static void promise14LevelCountsWhatThePointsTell() {
        for (int patch = 0; patch < 12; patch++) {
            ColourPatches mesh = Look.behind(Look::colourAll);
            for (int part = 0; part <= 2; part++) {
                int low = 20 * patch;
                int high = low + 60 + 30 * part;
                int points = 0;
                for (int at = 0; at < 81; at++) {
                    int value = mesh.point(patch, at % 9, at / 9, part);
                    points += value >= low && value <= high ? 1 : 0;
                }
                Check.due("patch " + patch + ", part " + part, mesh.level(patch, part, low, high), points);
            }
        }
    }

    static void promise14LevelOfNone() {
        Check.due("between two", byU().level(0, 1, 40, 79), 0);
        Check.due("below 0", byU().level(0, 1, -5, -1), 0);
        Check.due("above 255", byU().level(0, 1, 256, 300), 0);
    }

    static void promise14LevelTakesLowItself() {
        Check.due("at 39", byU().level(0, 1, 39, 79), 9);
        Check.due("above 39", byU().level(0, 1, 40, 80), 9);
        Check.due("0", byU().level(0, 1, 0, 9), 9);
        Check.due("above 0", byU().level(0, 1, 1, 255), 72);
    }

    static void promise14LevelTakesHighItself() {
        Check.due("at 80", byU().level(0, 1, 39, 80), 18);
        Check.due("below 80", byU().level(0, 1, 39, 79), 9);
        Check.due("255", byU().level(0, 1, 245, 255), 9);
        Check.due("below 255", byU().level(0, 1, 0, 254), 72);
    }

    static void promise14LevelOfLowAndHighInOne() {
        Check.due("127", byU().level(0, 1, 127, 127), 9);
        Check.due("128", byU().level(0, 1, 128, 128), 0);
        Check.due("0", byU().level(0, 1, 0, 0), 9);
        Check.due("255", byU().level(0, 1, 255, 255), 9);
    }

    static void promise14LevelWithLowAboveHighIs0() {
        Check.due("by one", byU().level(0, 1, 128, 127), 0);
        Check.due("by one, at a point", byU().level(0, 1, 127, 126), 0);
        Check.due("by all", byU().level(0, 1, 255, 0), 0);
        Check.due("by most", byU().level(0, 1, Integer.MAX_VALUE, Integer.MIN_VALUE), 0);
    }

    static void promise14LevelTakesAnyNumbers() {
        Check.due("both", byU().level(0, 1, Integer.MIN_VALUE, Integer.MAX_VALUE), 81);
        Check.due("the least alone", byU().level(0, 1, Integer.MIN_VALUE, Integer.MIN_VALUE), 0);
        Check.due("the greatest alone", byU().level(0, 1, Integer.MAX_VALUE, Integer.MAX_VALUE), 0);
        Check.due("up to 10", byU().level(0, 1, Integer.MIN_VALUE, 10), 18);
        Check.due("from 244", byU().level(0, 1, 244, Integer.MAX_VALUE), 18);
    }

    static void promise14LevelRefusesWithLowAboveHigh() {
        Check.due("patch", byU().level(12, 1, 9, 0), Check.INVALID);
        Check.due("patch", byU().level(-1, 1, 9, 0), Check.INVALID);
        Check.due("part", byU().level(0, 3, 9, 0), Check.INVALID);
        Check.due("part", byU().level(0, -1, 9, 0), Check.INVALID);
    }

    // ---- promise 15

    private static void nearest(ColourPatches mesh, int x, int y, int patch, int u, int v, int sum) {
        String call = "nearest(" + x + ", " + y + ", ";
        Check.due(call + "0)", mesh.nearest(x, y, 0), patch);
        Check.due(call + "1)", mesh.nearest(x, y, 1), u);
        Check.due(call + "2)", mesh.nearest(x, y, 2), v);
        Check.due(call + "3)", mesh.nearest(x, y, 3), sum);
    }

    private static ColourPatches allAt(int x, int y) {
        ColourPatches mesh = new ColourPatches();
        for (int corner = 0; corner < 20; corner++) {
            mesh.move(corner % 5, corner / 5, x, y);
        }
        return mesh;
    }

    static void promise15NearestAtThePlaceOfAPointIs0Away() {
        nearest(new ColourPatches(), 0, 0, 0, 0, 0, 0);
        nearest(new ColourPatches(), 25, 50, 0, 1, 2, 0);
        nearest(new ColourPatches(), 800, 600, 11, 8, 8, 0);
    }

    static void promise15NearestAtTheFourEndsOfThePlane() {
        nearest(new ColourPatches(), 999, 0, 3, 8, 0, 199 * 199);
        nearest(new ColourPatches(), 0, 999, 8, 0, 8, 399 * 399);
        nearest(new ColourPatches(), 999, 999, 11, 8, 8, 199 * 199 + 399 * 399);
    }

    static void promise15NearestAtTheGreatestDistance() {
        nearest(allAt(0, 999), 999, 0, 0, 0, 0, 2 * 999 * 999);
        nearest(allAt(999, 999), 0, 0, 0, 0, 0, 2 * 999 * 999);
        nearest(allAt(0, 0), 999, 999, 0, 0, 0, 2 * 999 * 999);
    }

    static void promise15NearestOfAllInOnePlaceIsTheLowestOfAll() {
        nearest(allAt(400, 300), 400, 300, 0, 0, 0, 0);
        nearest(allAt(400, 300), 401, 300, 0, 0, 0, 1);
    }

    static void promise15NearestOnAnEdgeIsOfTheLowestPatch() {
        nearest(new ColourPatches(), 200, 100, 0, 8, 4, 0);
        nearest(new ColourPatches(), 100, 200, 0, 4, 8, 0);
        nearest(new ColourPatches(), 600, 500, 10, 8, 4, 0);
        nearest(new ColourPatches(), 500, 400, 6, 4, 8, 0);
    }

    static void promise15NearestAtACornerOfFourPatchesIsOfTheLowest() {
        nearest(new ColourPatches(), 200, 200, 0, 8, 8, 0);
        nearest(new ColourPatches(), 600, 400, 6, 8, 8, 0);
    }

    /** Corner (1, 1) is the last point of patch 0 and the first one of patch 5. */
    static void promise15NearestIsOfTheLowestPatchAheadOfTheLowestV() {
        ColourPatches mesh = allAt(0, 0);
        mesh.move(1, 1, 20, 0);
        nearest(mesh, 20, 0, 0, 8, 8, 0);
    }

    /** The x of a point of patch 0 is 10 times the sum of u and v, its y is 0. */
    private static void bySum(ColourPatches mesh) {
        Look.place(mesh, 0, new int[][] {{0, 0}, {80, 0}, {160, 0}, {80, 0}});
    }

    static void promise15NearestIsOfTheLowestVAheadOfTheLowestU() {
        nearest(Look.behind(EdgesTest::bySum), 10, 0, 0, 1, 0, 0);
        nearest(Look.behind(EdgesTest::bySum), 40, 0, 0, 4, 0, 0);
        nearest(Look.behind(EdgesTest::bySum), 72, 0, 0, 7, 0, 4);
    }

    /** The x of a point of patch 0 is 10 u + 5 v, its y is 5 u + 10 v. */
    static void promise15NearestOfAPatchThatLeans() {
        ColourPatches mesh = new ColourPatches();
        Look.place(mesh, 0, new int[][] {{0, 0}, {80, 40}, {120, 120}, {40, 80}});
        for (int u = 0; u <= 8; u += 2) {
            for (int v = 0; v <= 8; v++) {
                nearest(mesh, 10 * u + 5 * v, 5 * u + 10 * v, 0, u, v, 0);
            }
        }
    }

    /** All points of one v are in one place, 10 times v. */
    static void promise15NearestIsOfTheLowestUOfOneV() {
        ColourPatches mesh = new ColourPatches();
        Look.place(mesh, 0, new int[][] {{0, 0}, {0, 0}, {80, 0}, {80, 0}});
        nearest(mesh, 20, 0, 0, 0, 2, 0);
        nearest(mesh, 31, 1, 0, 0, 3, 2);
    }

    /** Of four points as near as each other. */
    static void promise15NearestAmidFourPointsIsTheLowest() {
        ColourPatches mesh = new ColourPatches();
        for (int corner = 0; corner < 20; corner++) {
            mesh.move(corner % 5, corner / 5, 16 * (corner % 5), 16 * (corner / 5));
        }
        nearest(mesh, 3, 3, 0, 1, 1, 2);
        nearest(mesh, 21, 3, 1, 2, 1, 2);
    }

    /** 612 is nearer to 600, on the edge of two patches, and 613 is nearer to 625; by rows likewise. */
    static void promise15NearestOnEachSideOfTheMiddle() {
        nearest(new ColourPatches(), 612, 413, 10, 8, 1, 144 + 144);
        nearest(new ColourPatches(), 613, 412, 7, 1, 8, 144 + 144);
        nearest(new ColourPatches(), 613, 413, 11, 1, 1, 144 + 144);
        nearest(new ColourPatches(), 612, 412, 6, 8, 8, 144 + 144);
    }

    /** Of all 972 points by patch, v and u; an object for each patch tells where they are. */
    static void promise15NearestIsTheFirstOfTheNearestPoints() {
        int[][] points = new int[972][];
        for (int at = 0; at < 972; at++) {
            points[at] = new int[] {at / 81, at % 9, at / 9 % 9, 0, 0};
        }
        for (int patch = 0; patch < 12; patch++) {
            ColourPatches mesh = Look.behind(Look::placeAll);
            for (int at = 81 * patch; at < 81 * patch + 81; at++) {
                points[at][3] = mesh.point(patch, points[at][1], points[at][2], 3);
                points[at][4] = mesh.point(patch, points[at][1], points[at][2], 4);
            }
        }
        for (int asked = 0; asked < 400; asked++) {
            int x = asked * 277 % 1000;
            int y = asked * 613 % 1000;
            int[] best = points[0];
            for (int[] point : points) {
                best = away(point, x, y) < away(best, x, y) ? point : best;
            }
            nearest(Look.behind(Look::placeAll), x, y, best[0], best[1], best[2], away(best, x, y));
        }
    }

    private static int away(int[] point, int x, int y) {
        return (point[3] - x) * (point[3] - x) + (point[4] - y) * (point[4] - y);
    }

    // ---- promise 16

    static void promise16CalmOfAnEvenMeshIs0() {
        Check.due("calm", new ColourPatches().calm(), 0);
    }

    static void promise16CalmWithAllHeldIs0() {
        ColourPatches mesh = new ColourPatches();
        for (int corner = 0; corner < 20; corner++) {
            mesh.hold(corner % 5, corner / 5, 12 * corner, 5 * corner, 255 - corner);
        }
        Check.due("calm", mesh.calm(), 0);
    }

    static void promise16CalmBehindOneRoundIs1() {
        for (int part = 0; part <= 2; part++) {
            ColourPatches mesh = new ColourPatches();
            Look.holdAll(mesh, 10, 10, 10);
            mesh.hold(2, 2, part == 0 ? 0 : 10, part == 1 ? 0 : 10, part == 2 ? 0 : 10);
            mesh.free(2, 2);
            Check.due("calm by part " + part, mesh.calm(), 1);
            mesh.spread(1);
            Check.due("calm behind that round", mesh.calm(), 0);
        }
    }

    private static Consumer<ColourPatches> heldAtBothEnds(int last) {
        return mesh -> {
            mesh.hold(0, 0, 1, 128, 128);
            mesh.hold(4, 3, last, 128, 128);
        };
    }

    /** 1 if one more round behind so many changes something, otherwise 0. */
    private static int stillChanging(int last, int rounds) {
        ColourPatches mesh = Look.behind(heldAtBothEnds(last));
        for (int round = 0; round < rounds; round++) {
            mesh.spread(1);
        }
        return mesh.spread(1) > 0 ? 1 : 0;
    }

    /** Found by trying, and shown by spreading so many rounds. */
    static void promise16CalmBehind40RoundsIs40() {
        Check.due("round 40 changes something", stillChanging(205, 39), 1);
        Check.due("round 41 changes nothing", stillChanging(205, 40), 0);
        Check.due("calm", Look.behind(heldAtBothEnds(205)).calm(), 40);
    }

    static void promise16CalmBehind41RoundsIsNotFound() {
        Check.due("round 41 changes something", stillChanging(215, 40), 1);
        Check.due("round 42 changes nothing", stillChanging(215, 41), 0);
        Check.due("calm", Look.behind(heldAtBothEnds(215)).calm(), Check.NOT_FOUND);
    }

    static void promise16CalmBehind41RoundsIsFoundBehindOneOfThem() {
        ColourPatches mesh = Look.behind(heldAtBothEnds(215));
        mesh.spread(1);
        Check.due("calm", mesh.calm(), 40);
    }

    /** The corners of an even sum have those of an odd one beside them alone: they change for ever. */
    static void promise16NeverCalmIsNotFound() {
        ColourPatches mesh = new ColourPatches();
        for (int corner = 0; corner < 20; corner++) {
            mesh.hold(corner % 5, corner / 5, (corner % 5 + corner / 5) % 2 * 200, 0, 0);
        }
        Look.freeAll(mesh);
        Check.due("calm", mesh.calm(), Check.NOT_FOUND);
        Check.due("the colour stays", mesh.cornerOf(1, 0, 2), 200);
    }

    /** For meshes on both sides of 40, calm is what spreading round by round finds. */
    static void promise16CalmIsWhatSpreadingFinds() {
        int later = 0;
        for (int value = 0; value <= 255; value++) {
            ColourPatches mesh = new ColourPatches();
            mesh.hold(0, 0, value, 128, 128);
            mesh.hold(4, 3, 255 - value, 128, 128);
            mesh.hold(2, 1, value, value, 128);
            mesh.hold(2, 2, 0, 128, 128);
            int said = mesh.calm();
            int rounds = 0;
            while (rounds <= 60 && mesh.spread(1) != 0) {
                rounds++;
            }
            Check.due("calm for " + value, said, rounds > 40 ? Check.NOT_FOUND : rounds);
            later += rounds > 40 ? 1 : 0;
        }
        Check.that("some are later than 40: " + later, later > 0 && later < 256);
    }
}
