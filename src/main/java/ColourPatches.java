/**
 * A mesh of 4 by 3 patches over which colours are blended.
 *
 * <p>Every row and object that a call needs is made by the constructor and used again, so that
 * calls make nothing.
 */
public final class ColourPatches {
    /** An argument is out of its range, or there is no such corner or patch. */
    public static final int INVALID_ARGUMENT = -1001;
    /** The call is not possible in the present state. */
    public static final int NOT_POSSIBLE = -1002;
    /** A fixed limit has been reached. */
    public static final int LIMIT_REACHED = -1003;
    /** There is no such value. */
    public static final int NOT_FOUND = -1004;

    private static final int COLUMNS = 5;
    private static final int ROWS = 4;
    private static final int CORNERS = 20;
    private static final int CORNERS_OF_PATCH = 4;
    private static final int PATCH_COLUMNS = 4;
    private static final int PATCH_ROWS = 3;
    private static final int PATCHES = 12;
    private static final int PARTS = 3;
    private static final int SLOPES_OF_CORNER = 6;
    private static final int STEPS = 8;
    private static final int POINTS_OF_PATCH = 81;
    private static final int LAST_PART = 2;
    private static final int COLOUR_MOST = 255;
    private static final int PLACE_MOST = 999;
    private static final int ROUNDS_MOST = 20;
    private static final int CALM_MOST = 40;
    private static final int HISTORY_LIMIT = 4;
    private static final int TEXT_LIMIT = 60;
    private static final int NOT_OF_THE_FORM = 1;
    private static final int NOT_DOABLE = 2;

    /** Above every sum of the squares of two differences of places. */
    private static final int FARTHER_THAN_ANY = 2000000;

    /** Stands for a slope that is not told; no slope can be as great. */
    private static final int NOT_TOLD = 1000;

    private final Mesh mesh;
    private final Mesh snapshot;
    private final Mesh trial;
    private final Mesh roundStart;
    private final History history;
    private final Blend blend;
    private final Blend blendBeside;
    private final Palette palette;
    private final int[] cornerColours;
    private final Text text;
    private final Reading reading;
    private boolean hasSnapshot;

    /** Creates an even mesh of one colour. */
    public ColourPatches() {
        mesh = new Mesh();
        snapshot = new Mesh();
        trial = new Mesh();
        roundStart = new Mesh();
        history = new History();
        blend = new Blend();
        blendBeside = new Blend();
        palette = new Palette();
        cornerColours = new int[CORNERS];
        text = new Text();
        reading = new Reading();
        hasSnapshot = false;
    }

    // ---- corners

    /** Holds a corner with a colour. */
    public int hold(int column, int row, int one, int two, int three) {
        if (!isCorner(column, row) || !isPartValue(one) || !isPartValue(two) || !isPartValue(three)) {
            return INVALID_ARGUMENT;
        }
        int corner = cornerAt(column, row);
        int wasHeld = mesh.held[corner];
        history.record(mesh);
        mesh.holdCorner(corner, one, two, three);
        return wasHeld;
    }

    /** Holds a corner no more; its colour stays as it is. */
    public int free(int column, int row) {
        int refusal = refusalOfFreeing(mesh, column, row);
        if (refusal != 0) {
            return refusal;
        }
        history.record(mesh);
        mesh.held[cornerAt(column, row)] = 0;
        return mesh.heldCorners();
    }

    /** Moves a corner. */
    public int move(int column, int row, int x, int y) {
        if (!isCorner(column, row) || !isPlace(x, y)) {
            return INVALID_ARGUMENT;
        }
        history.record(mesh);
        mesh.moveCorner(cornerAt(column, row), x, y);
        return mesh.foldedPatches();
    }

    /** Tells a slope of a corner. */
    public int slope(int column, int row, int along, int part, int slope) {
        if (!isCorner(column, row) || !isWithin(along, 0, 1) || !isPart(part)
                || !isWithin(slope, -COLOUR_MOST, COLOUR_MOST)) {
            return INVALID_ARGUMENT;
        }
        int corner = cornerAt(column, row);
        int was = mesh.slopeOf(corner, along, part);
        history.record(mesh);
        mesh.slopes[slopeIndex(corner, along, part)] = slope;
        return was;
    }

    /** Makes all slopes of a corner ones that are not told. */
    public int loose(int column, int row) {
        if (!isCorner(column, row)) {
            return INVALID_ARGUMENT;
        }
        int corner = cornerAt(column, row);
        int told = mesh.toldSlopesOf(corner);
        if (told == 0) {
            return NOT_POSSIBLE;
        }
        history.record(mesh);
        mesh.loosen(corner);
        return told;
    }

    /** Spreads colours. */
    public int spread(int rounds) {
        if (!isWithin(rounds, 1, ROUNDS_MOST)) {
            return INVALID_ARGUMENT;
        }
        history.record(mesh);
        int changed = 0;
        for (int round = 0; round < rounds; round++) {
            changed = spreadOnce(mesh);
        }
        return changed;
    }

    // ---- what there is

    /** Returns something of a corner. */
    public int cornerOf(int column, int row, int what) {
        if (!isCorner(column, row) || !isWithin(what, 0, 12)) {
            return INVALID_ARGUMENT;
        }
        int corner = cornerAt(column, row);
        if (what == 12) {
            return mesh.toldSlopesOf(corner);
        }
        if (what >= 6) {
            return mesh.slopeOf(corner, (what - 6) / PARTS, (what - 6) % PARTS);
        }
        if (what == 5) {
            return mesh.held[corner];
        }
        if (what >= 2) {
            return mesh.partOf(corner, what - 2);
        }
        return what == 0 ? mesh.xs[corner] : mesh.ys[corner];
    }

    /** Returns something of a point. */
    public int point(int patch, int u, int v, int what) {
        if (!isPatch(patch) || !isStep(u) || !isStep(v) || !isWithin(what, 0, 4)) {
            return INVALID_ARGUMENT;
        }
        if (what == 3) {
            return placeOfPoint(mesh.xs, patch, u, v);
        }
        if (what == 4) {
            return placeOfPoint(mesh.ys, patch, u, v);
        }
        blend.load(mesh, patch, what);
        return blend.partAt(u, v);
    }

    /** Returns something of a patch. */
    public int patchOf(int patch, int what) {
        if (!isPatch(patch) || !isWithin(what, 0, 5)) {
            return INVALID_ARGUMENT;
        }
        if (what == 0) {
            return mesh.isFolded(patch) ? 1 : 0;
        }
        if (what == 4) {
            return mesh.heldCornersOf(patch);
        }
        if (what == 5) {
            return mesh.doubleArea(patch);
        }
        palette.load(mesh, patch, blend);
        if (what == 1) {
            return unlikeNumbers(palette.colours);
        }
        return what == 2 ? palette.greatestSum() : palette.leastSum();
    }

    /** Returns a number. */
    public int count(int what) {
        switch (what) {
            case 0:
                return mesh.heldCorners();
            case 1:
                return mesh.foldedPatches();
            case 2:
                return mesh.toldSlopes();
            case 3:
                return history.size;
            case 4:
                return text.length;
            case 5:
                return hasSnapshot ? 1 : 0;
            case 6:
                mesh.fillColours(cornerColours);
                return unlikeNumbers(cornerColours);
            default:
                return INVALID_ARGUMENT;
        }
    }

    // ---- edges, levels, places

    /** Tells whether two patches agree along their edge. */
    public int agrees(int patch, int side) {
        if (!isPatch(patch) || !isSide(side)) {
            return INVALID_ARGUMENT;
        }
        if (!hasPatchBeside(patch, side)) {
            return NOT_FOUND;
        }
        for (int part = 0; part < PARTS; part++) {
            loadBothBlends(patch, side, part);
            for (int at = 0; at <= STEPS; at++) {
                if (blend.partInside(side, STEPS, at) != blendBeside.partInside(side, 0, at)) {
                    return 0;
                }
            }
        }
        return 1;
    }

    /** Returns the crease at a point of the edge of two patches. */
    public int crease(int patch, int side, int at, int part) {
        if (!isPatch(patch) || !isSide(side) || !isStep(at) || !isPart(part)) {
            return INVALID_ARGUMENT;
        }
        if (!hasPatchBeside(patch, side)) {
            return NOT_FOUND;
        }
        loadBothBlends(patch, side, part);
        int edge = blend.partInside(side, STEPS, at);
        int fallToEdge = blend.partInside(side, STEPS - 1, at) - edge;
        int fallFromEdge = edge - blendBeside.partInside(side, 1, at);
        return Math.abs(fallToEdge - fallFromEdge);
    }

    /** Counts points of a patch by a part of their colours. */
    public int level(int patch, int part, int low, int high) {
        if (!isPatch(patch) || !isPart(part)) {
            return INVALID_ARGUMENT;
        }
        blend.load(mesh, patch, part);
        int points = 0;
        for (int v = 0; v <= STEPS; v++) {
            for (int u = 0; u <= STEPS; u++) {
                if (isWithin(blend.partAt(u, v), low, high)) {
                    points++;
                }
            }
        }
        return points;
    }

    /** Finds the point of all patches that is nearest to a place. */
    public int nearest(int x, int y, int what) {
        if (!isPlace(x, y) || !isWithin(what, 0, 3)) {
            return INVALID_ARGUMENT;
        }
        int least = FARTHER_THAN_ANY;
        int nearestPatch = 0;
        int nearestU = 0;
        int nearestV = 0;
        for (int patch = 0; patch < PATCHES; patch++) {
            for (int v = 0; v <= STEPS; v++) {
                for (int u = 0; u <= STEPS; u++) {
                    int acrossX = placeOfPoint(mesh.xs, patch, u, v) - x;
                    int acrossY = placeOfPoint(mesh.ys, patch, u, v) - y;
                    int sum = acrossX * acrossX + acrossY * acrossY;
                    if (sum < least) {
                        least = sum;
                        nearestPatch = patch;
                        nearestU = u;
                        nearestV = v;
                    }
                }
            }
        }
        if (what == 0) {
            return nearestPatch;
        }
        if (what == 1) {
            return nearestU;
        }
        return what == 2 ? nearestV : least;
    }

    /** Finds after how many rounds of spreading no colour becomes another one any more. */
    public int calm() {
        trial.copyFrom(mesh);
        for (int rounds = 0; rounds <= CALM_MOST; rounds++) {
            if (spreadOnce(trial) == 0) {
                return rounds;
            }
        }
        return NOT_FOUND;
    }

    // ---- snapshot, undo

    /** Takes a snapshot of the state, in place of the one that was. */
    public int keep() {
        snapshot.copyFrom(mesh);
        hasSnapshot = true;
        return mesh.heldCorners();
    }

    /** Restores the state of the snapshot, which stays. */
    public int restore() {
        if (!hasSnapshot) {
            return NOT_POSSIBLE;
        }
        history.record(mesh);
        mesh.copyFrom(snapshot);
        return mesh.heldCorners();
    }

    /** Restores the latest state of the history, which is removed from it. */
    public int undo() {
        if (history.size == 0) {
            return NOT_POSSIBLE;
        }
        history.takeLatest(mesh);
        return history.size;
    }

    // ---- texts

    /** Appends a character to the text. */
    public int type(int character) {
        if (!isWithin(character, 32, 126)) {
            return INVALID_ARGUMENT;
        }
        if (text.length >= TEXT_LIMIT) {
            return LIMIT_REACHED;
        }
        text.append((char) character);
        return text.length;
    }

    /** Empties the text. */
    public int clearText() {
        int was = text.length;
        text.length = 0;
        return was;
    }

    /** Tells about the fault of the text. */
    public int fault(int what) {
        if (!isWithin(what, 0, 2)) {
            return INVALID_ARGUMENT;
        }
        reading.run(text, mesh, trial);
        if (reading.reason == 0) {
            return NOT_FOUND;
        }
        if (what == 0) {
            return reading.position;
        }
        if (what == 1) {
            return reading.reason;
        }
        return reading.reason == NOT_OF_THE_FORM ? NOT_FOUND : reading.cause;
    }

    /** Does all commands of the text, which stays. */
    public int play() {
        reading.run(text, mesh, trial);
        if (reading.reason != 0) {
            return NOT_POSSIBLE;
        }
        history.record(mesh);
        mesh.copyFrom(trial);
        return reading.commands;
    }

    // ---- what the calls share

    private int spreadOnce(Mesh spreading) {
        roundStart.copyFrom(spreading);
        return spreading.takeRound(roundStart);
    }

    private void loadBothBlends(int patch, int side, int part) {
        blend.load(mesh, patch, part);
        blendBeside.load(mesh, side == 0 ? patch + 1 : patch + PATCH_COLUMNS, part);
    }

    private static boolean isWithin(int number, int low, int high) {
        return number >= low && number <= high;
    }

    private static boolean isCorner(int column, int row) {
        return isWithin(column, 0, COLUMNS - 1) && isWithin(row, 0, ROWS - 1);
    }

    private static boolean isPatch(int patch) {
        return isWithin(patch, 0, PATCHES - 1);
    }

    private static boolean isSide(int side) {
        return isWithin(side, 0, 1);
    }

    private static boolean isStep(int step) {
        return isWithin(step, 0, STEPS);
    }

    private static boolean isPart(int part) {
        return isWithin(part, 0, LAST_PART);
    }

    private static boolean isPartValue(int value) {
        return isWithin(value, 0, COLOUR_MOST);
    }

    private static boolean isPlace(int x, int y) {
        return isWithin(x, 0, PLACE_MOST) && isWithin(y, 0, PLACE_MOST);
    }

    private static boolean hasPatchBeside(int patch, int side) {
        return side == 0
                ? patch % PATCH_COLUMNS < PATCH_COLUMNS - 1
                : patch / PATCH_COLUMNS < PATCH_ROWS - 1;
    }

    private static int cornerAt(int column, int row) {
        return row * COLUMNS + column;
    }

    /** The corner of a patch: 0 and 1 those of its lower row by columns, 2 and 3 of the other. */
    private static int cornerOfPatch(int patch, int which) {
        int column = patch % PATCH_COLUMNS + which % 2;
        int row = patch / PATCH_COLUMNS + which / 2;
        return cornerAt(column, row);
    }

    /** The corner of a patch as they are gone around: (0, 0), (8, 0), (8, 8), (0, 8). */
    private static int cornerAround(int patch, int turn) {
        int which = turn % CORNERS_OF_PATCH;
        if (which == 2) {
            return cornerOfPatch(patch, 3);
        }
        return cornerOfPatch(patch, which == 3 ? 2 : which);
    }

    private static int slopeIndex(int corner, int along, int part) {
        return corner * SLOPES_OF_CORNER + along * PARTS + part;
    }

    private static int packedColour(int one, int two, int three) {
        return (one << 16) | (two << 8) | three;
    }

    /** Refuses as the call does: there must be such a corner, and it must be held. */
    private static int refusalOfFreeing(Mesh corners, int column, int row) {
        if (!isCorner(column, row)) {
            return INVALID_ARGUMENT;
        }
        return corners.held[cornerAt(column, row)] == 1 ? 0 : NOT_POSSIBLE;
    }

    /** The x of a point if places are those along x, or its y. */
    private static int placeOfPoint(int[] places, int patch, int u, int v) {
        int sum = 0;
        for (int which = 0; which < CORNERS_OF_PATCH; which++) {
            int byColumn = which % 2 == 0 ? STEPS - u : u;
            int byRow = which / 2 == 0 ? STEPS - v : v;
            sum += places[cornerOfPatch(patch, which)] * byColumn * byRow;
        }
        return sum / (STEPS * STEPS);
    }

    private static int unlikeNumbers(int[] numbers) {
        int unlike = 0;
        for (int at = 0; at < numbers.length; at++) {
            if (!standsAhead(numbers, at)) {
                unlike++;
            }
        }
        return unlike;
    }

    private static boolean standsAhead(int[] numbers, int at) {
        for (int ahead = 0; ahead < at; ahead++) {
            if (numbers[ahead] == numbers[at]) {
                return true;
            }
        }
        return false;
    }

    /** All that a change records and a snapshot keeps. */
    private static final class Mesh {
        final int[] xs;
        final int[] ys;
        final int[] parts;
        final int[] held;
        final int[] slopes;

        Mesh() {
            xs = new int[CORNERS];
            ys = new int[CORNERS];
            parts = new int[CORNERS * PARTS];
            held = new int[CORNERS];
            slopes = new int[CORNERS * SLOPES_OF_CORNER];
            for (int corner = 0; corner < CORNERS; corner++) {
                xs[corner] = 200 * (corner % COLUMNS);
                ys[corner] = 200 * (corner / COLUMNS);
            }
            for (int at = 0; at < parts.length; at++) {
                parts[at] = 128;
            }
            for (int at = 0; at < slopes.length; at++) {
                slopes[at] = NOT_TOLD;
            }
        }

        void copyFrom(Mesh other) {
            System.arraycopy(other.xs, 0, xs, 0, CORNERS);
            System.arraycopy(other.ys, 0, ys, 0, CORNERS);
            System.arraycopy(other.parts, 0, parts, 0, CORNERS * PARTS);
            System.arraycopy(other.held, 0, held, 0, CORNERS);
            System.arraycopy(other.slopes, 0, slopes, 0, CORNERS * SLOPES_OF_CORNER);
        }

        void holdCorner(int corner, int one, int two, int three) {
            held[corner] = 1;
            parts[corner * PARTS] = one;
            parts[corner * PARTS + 1] = two;
            parts[corner * PARTS + 2] = three;
        }

        void moveCorner(int corner, int x, int y) {
            xs[corner] = x;
            ys[corner] = y;
        }

        void loosen(int corner) {
            for (int which = 0; which < SLOPES_OF_CORNER; which++) {
                slopes[corner * SLOPES_OF_CORNER + which] = NOT_TOLD;
            }
        }

        int partOf(int corner, int part) {
            return parts[corner * PARTS + part];
        }

        int slopeOf(int corner, int along, int part) {
            int told = slopes[slopeIndex(corner, along, part)];
            return told != NOT_TOLD ? told : slopeFromBeside(corner, along, part);
        }

        private int slopeFromBeside(int corner, int along, int part) {
            int at = along == 0 ? corner % COLUMNS : corner / COLUMNS;
            int last = along == 0 ? COLUMNS - 1 : ROWS - 1;
            int step = along == 0 ? 1 : COLUMNS;
            if (at == 0) {
                return partOf(corner + step, part) - partOf(corner, part);
            }
            if (at == last) {
                return partOf(corner, part) - partOf(corner - step, part);
            }
            return Math.floorDiv(partOf(corner + step, part) - partOf(corner - step, part), 2);
        }

        int toldSlopesOf(int corner) {
            int told = 0;
            for (int which = 0; which < SLOPES_OF_CORNER; which++) {
                if (slopes[corner * SLOPES_OF_CORNER + which] != NOT_TOLD) {
                    told++;
                }
            }
            return told;
        }

        int toldSlopes() {
            int told = 0;
            for (int corner = 0; corner < CORNERS; corner++) {
                told += toldSlopesOf(corner);
            }
            return told;
        }

        int heldCorners() {
            int number = 0;
            for (int corner = 0; corner < CORNERS; corner++) {
                number += held[corner];
            }
            return number;
        }

        int heldCornersOf(int patch) {
            int number = 0;
            for (int which = 0; which < CORNERS_OF_PATCH; which++) {
                number += held[cornerOfPatch(patch, which)];
            }
            return number;
        }

        /** Takes the colours of one round from before; tells how many corners have another one. */
        int takeRound(Mesh before) {
            int changed = 0;
            for (int corner = 0; corner < CORNERS; corner++) {
                if (held[corner] == 0 && takeFromBeside(corner, before)) {
                    changed++;
                }
            }
            return changed;
        }

        private boolean takeFromBeside(int corner, Mesh before) {
            boolean changed = false;
            for (int part = 0; part < PARTS; part++) {
                int mean = before.meanBeside(corner, part);
                if (mean != before.partOf(corner, part)) {
                    changed = true;
                }
                parts[corner * PARTS + part] = mean;
            }
            return changed;
        }

        private int meanBeside(int corner, int part) {
            int column = corner % COLUMNS;
            int row = corner / COLUMNS;
            int sum = 0;
            int beside = 0;
            if (column > 0) {
                sum += partOf(corner - 1, part);
                beside++;
            }
            if (column < COLUMNS - 1) {
                sum += partOf(corner + 1, part);
                beside++;
            }
            if (row > 0) {
                sum += partOf(corner - COLUMNS, part);
                beside++;
            }
            if (row < ROWS - 1) {
                sum += partOf(corner + COLUMNS, part);
                beside++;
            }
            return beside > 0 ? sum / beside : partOf(corner, part);
        }

        boolean isFolded(int patch) {
            for (int turn = 0; turn < CORNERS_OF_PATCH; turn++) {
                int ahead = cornerAround(patch, turn);
                int corner = cornerAround(patch, turn + 1);
                int behind = cornerAround(patch, turn + 2);
                int turned = (xs[corner] - xs[ahead]) * (ys[behind] - ys[corner])
                        - (ys[corner] - ys[ahead]) * (xs[behind] - xs[corner]);
                if (turned <= 0) {
                    return true;
                }
            }
            return false;
        }

        int foldedPatches() {
            int folded = 0;
            for (int patch = 0; patch < PATCHES; patch++) {
                if (isFolded(patch)) {
                    folded++;
                }
            }
            return folded;
        }

        int doubleArea(int patch) {
            int area = 0;
            for (int turn = 0; turn < CORNERS_OF_PATCH; turn++) {
                int corner = cornerAround(patch, turn);
                int behind = cornerAround(patch, turn + 1);
                area += xs[corner] * ys[behind] - xs[behind] * ys[corner];
            }
            return Math.abs(area);
        }

        void fillColours(int[] colours) {
            for (int corner = 0; corner < CORNERS && corner < colours.length; corner++) {
                colours[corner] = packedColour(partOf(corner, 0), partOf(corner, 1), partOf(corner, 2));
            }
        }
    }

    /** One part of the colour over one patch, blended by cubes. */
    private static final class Blend {
        final int[] parts;
        final int[] rowSlopes;
        final int[] columnSlopes;

        Blend() {
            parts = new int[CORNERS_OF_PATCH];
            rowSlopes = new int[CORNERS_OF_PATCH];
            columnSlopes = new int[CORNERS_OF_PATCH];
        }

        void load(Mesh mesh, int patch, int part) {
            for (int which = 0; which < CORNERS_OF_PATCH; which++) {
                int corner = cornerOfPatch(patch, which);
                parts[which] = mesh.partOf(corner, part);
                rowSlopes[which] = mesh.slopeOf(corner, 0, part);
                columnSlopes[which] = mesh.slopeOf(corner, 1, part);
            }
        }

        int partAt(int u, int v) {
            int sum = 0;
            for (int which = 0; which < CORNERS_OF_PATCH; which++) {
                int p = partWeight(u, which % 2);
                int q = partWeight(v, which / 2);
                int r = slopeWeight(u, which % 2);
                int s = slopeWeight(v, which / 2);
                sum += parts[which] * p * q + rowSlopes[which] * r * q + columnSlopes[which] * p * s;
            }
            return Math.max(0, Math.min(COLOUR_MOST, Math.floorDiv(sum, 262144)));
        }

        /** The part at a depth into the patch across a side, at a step along that side. */
        int partInside(int side, int depth, int at) {
            return side == 0 ? partAt(depth, at) : partAt(at, depth);
        }

        /** The document's A for the corners that are nearer to 0, its B for the others. */
        private static int partWeight(int t, int far) {
            return far == 0 ? 2 * t * t * t - 24 * t * t + 512 : 24 * t * t - 2 * t * t * t;
        }

        /** The document's C for the corners that are nearer to 0, its D for the others. */
        private static int slopeWeight(int t, int far) {
            return far == 0 ? t * t * t - 16 * t * t + 64 * t : t * t * t - 8 * t * t;
        }
    }

    /** The colours of the 81 points of a patch. */
    private static final class Palette {
        final int[] colours;
        final int[] sums;

        Palette() {
            colours = new int[POINTS_OF_PATCH];
            sums = new int[POINTS_OF_PATCH];
        }

        void load(Mesh mesh, int patch, Blend blend) {
            for (int at = 0; at < POINTS_OF_PATCH; at++) {
                colours[at] = 0;
                sums[at] = 0;
            }
            for (int part = 0; part < PARTS; part++) {
                blend.load(mesh, patch, part);
                for (int at = 0; at < POINTS_OF_PATCH; at++) {
                    int value = blend.partAt(at % (STEPS + 1), at / (STEPS + 1));
                    colours[at] = (colours[at] << 8) | value;
                    sums[at] += value;
                }
            }
        }

        int greatestSum() {
            int greatest = sums[0];
            for (int at = 1; at < POINTS_OF_PATCH; at++) {
                greatest = Math.max(greatest, sums[at]);
            }
            return greatest;
        }

        int leastSum() {
            int least = sums[0];
            for (int at = 1; at < POINTS_OF_PATCH; at++) {
                least = Math.min(least, sums[at]);
            }
            return least;
        }
    }

    /** The latest states, in a ring whose rows are used again. */
    private static final class History {
        final Mesh[] states;
        int oldest;
        int size;

        History() {
            states = new Mesh[HISTORY_LIMIT];
            for (int at = 0; at < HISTORY_LIMIT; at++) {
                states[at] = new Mesh();
            }
            oldest = 0;
            size = 0;
        }

        void record(Mesh mesh) {
            states[(oldest + size) % HISTORY_LIMIT].copyFrom(mesh);
            if (size < HISTORY_LIMIT) {
                size++;
            } else {
                oldest = (oldest + 1) % HISTORY_LIMIT;
            }
        }

        void takeLatest(Mesh mesh) {
            if (size > 0) {
                size--;
                mesh.copyFrom(states[(oldest + size) % HISTORY_LIMIT]);
            }
        }
    }

    /** The text as it is typed. */
    private static final class Text {
        final char[] signs;
        int length;

        Text() {
            signs = new char[TEXT_LIMIT];
            length = 0;
        }

        void append(char sign) {
            if (length < TEXT_LIMIT) {
                signs[length] = sign;
                length++;
            }
        }

        /** The sign there, or the sign 0, which cannot be typed, behind the end. */
        char signAt(int at) {
            return at >= 0 && at < length ? signs[at] : (char) 0;
        }
    }

    /** One command of the text, as it was read last. */
    private static final class Command {
        char kind;
        int column;
        int row;
        int one;
        int two;
        int three;
        int end;

        /** Reads the command that begins at start; tells whether it is of the form. */
        boolean readFrom(Text text, int start) {
            kind = text.signAt(start);
            column = digitOf(text.signAt(start + 1));
            row = digitOf(text.signAt(start + 2));
            end = start + 3;
            if (column < 0 || row < 0) {
                return false;
            }
            boolean hasNumbers = kind == 'f';
            if (kind == 'c') {
                hasNumbers = takeSign(text, ':') && takeColour(text);
            } else if (kind == 'm') {
                hasNumbers = takeSign(text, ':') && takePlace(text);
            }
            return hasNumbers && takeSign(text, ';');
        }

        private boolean takeSign(Text text, char sign) {
            boolean there = text.signAt(end) == sign;
            end++;
            return there;
        }

        private boolean takeColour(Text text) {
            one = takePart(text);
            two = takePart(text);
            three = takePart(text);
            return one >= 0 && two >= 0 && three >= 0;
        }

        /** Takes two digits of sixteen; tells their number, or -1. */
        private int takePart(Text text) {
            int high = sixteenOf(text.signAt(end));
            int low = sixteenOf(text.signAt(end + 1));
            end += 2;
            return high >= 0 && low >= 0 ? high * 16 + low : -1;
        }

        private boolean takePlace(Text text) {
            one = takeNumber(text);
            if (one < 0 || !takeSign(text, ',')) {
                return false;
            }
            two = takeNumber(text);
            return two >= 0;
        }

        /** Takes one to three digits; tells their number, or -1 if there is none. */
        private int takeNumber(Text text) {
            int number = -1;
            for (int digits = 0; digits < 3; digits++) {
                int digit = digitOf(text.signAt(end));
                if (digit < 0) {
                    return number;
                }
                number = digits == 0 ? digit : number * 10 + digit;
                end++;
            }
            return number;
        }

        /** The number of a digit, or -1. */
        private static int digitOf(char sign) {
            return sign >= '0' && sign <= '9' ? sign - '0' : -1;
        }

        /** The number of a digit of sixteen, or -1. */
        private static int sixteenOf(char sign) {
            return sign >= 'a' && sign <= 'f' ? sign - 'a' + 10 : digitOf(sign);
        }

        /** Does the command; tells 0, or the error code of its call, which then changes nothing. */
        int runOn(Mesh mesh) {
            if (kind == 'f') {
                int refusal = refusalOfFreeing(mesh, column, row);
                if (refusal == 0) {
                    mesh.held[cornerAt(column, row)] = 0;
                }
                return refusal;
            }
            if (!isCorner(column, row)) {
                return INVALID_ARGUMENT;
            }
            if (kind == 'c') {
                mesh.holdCorner(cornerAt(column, row), one, two, three);
            } else {
                mesh.moveCorner(cornerAt(column, row), one, two);
            }
            return 0;
        }
    }

    /** What came of doing a text: how many commands it has, or its fault. */
    private static final class Reading {
        final Command command;
        int commands;
        int position;
        int reason;
        int cause;

        Reading() {
            command = new Command();
        }

        /**
         * Does the commands up to the first one that is not possible, on the trial mesh, so that
         * the mesh stays as it is.
         */
        void run(Text text, Mesh mesh, Mesh trial) {
            trial.copyFrom(mesh);
            commands = 0;
            position = 0;
            reason = 0;
            cause = 0;
            // Each command has four characters at least, so there are fewer than the limit.
            for (int n = 0; n < TEXT_LIMIT && position < text.length && reason == 0; n++) {
                if (command.readFrom(text, position)) {
                    cause = command.runOn(trial);
                    reason = cause == 0 ? 0 : NOT_DOABLE;
                } else {
                    reason = NOT_OF_THE_FORM;
                }
                if (reason == 0) {
                    position = command.end;
                    commands++;
                }
            }
        }
    }
}
