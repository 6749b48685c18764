import java.util.function.Consumer;

/**
 * Looks at all that an object answers behind some calls. An object serves for 512 calls, so each
 * look makes an object of its own and does the calls on it.
 */
final class Look {
    private static final int MOST_STATES = 5;

    private Look() {
    }

    static ColourPatches behind(Consumer<ColourPatches> calls) {
        ColourPatches mesh = new ColourPatches();
        calls.accept(mesh);
        return mesh;
    }

    /** All that cornerOf tells of all corners: 260 calls. */
    static String state(ColourPatches mesh) {
        StringBuilder told = new StringBuilder();
        for (int row = 0; row < 4; row++) {
            for (int column = 0; column < 5; column++) {
                for (int what = 0; what <= 12; what++) {
                    told.append(mesh.cornerOf(column, row, what)).append(' ');
                }
            }
        }
        return told.toString();
    }

    static String state(Consumer<ColourPatches> calls) {
        return state(behind(calls));
    }

    /** The state, the numbers, the text with what it does, the snapshot, and each state of the history. */
    static String whole(Consumer<ColourPatches> calls) {
        StringBuilder told = new StringBuilder("now ");
        ColourPatches now = behind(calls);
        told.append(state(now));
        for (int what = 0; what <= 6; what++) {
            told.append(now.count(what)).append(' ');
        }
        for (int what = 0; what <= 2; what++) {
            told.append(now.fault(what)).append(' ');
        }
        ColourPatches played = behind(calls);
        told.append("\n  played ").append(played.play()).append(' ').append(state(played));
        ColourPatches restored = behind(calls);
        told.append("\n  restored ").append(restored.restore()).append(' ').append(state(restored));
        for (int undone = 1; undone <= MOST_STATES; undone++) {
            ColourPatches earlier = behind(calls);
            told.append("\n  undone");
            for (int at = 0; at < undone; at++) {
                told.append(' ').append(earlier.undo());
            }
            told.append(' ').append(state(earlier));
        }
        return told.toString();
    }

    /** Behind the one calls the corners are as behind the other ones. */
    static void sameState(String what, Consumer<ColourPatches> calls, Consumer<ColourPatches> others) {
        Check.same("state " + what, state(calls), state(others));
    }

    /** Behind the one calls everything is as behind the other ones. */
    static void sameWhole(String what, Consumer<ColourPatches> calls, Consumer<ColourPatches> others) {
        Check.same("object " + what, whole(calls), whole(others));
    }

    /** A call behind others changes nothing. */
    static void changesNothing(String what, Consumer<ColourPatches> calls, Consumer<ColourPatches> call) {
        sameWhole(what, calls.andThen(call), calls);
    }

    static void write(ColourPatches mesh, String text) {
        for (int at = 0; at < text.length(); at++) {
            mesh.type(text.charAt(at));
        }
    }

    static void rewrite(ColourPatches mesh, String text) {
        mesh.clearText();
        write(mesh, text);
    }

    static void holdAll(ColourPatches mesh, int one, int two, int three) {
        for (int corner = 0; corner < 20; corner++) {
            mesh.hold(corner % 5, corner / 5, one, two, three);
        }
    }

    static void freeAll(ColourPatches mesh) {
        for (int corner = 0; corner < 20; corner++) {
            mesh.free(corner % 5, corner / 5);
        }
    }

    /** Holds all corners with uneven colours. */
    static void colourAll(ColourPatches mesh) {
        for (int corner = 0; corner < 20; corner++) {
            int column = corner % 5;
            int row = corner / 5;
            mesh.hold(column, row, partOfColourAll(column, row, 0), partOfColourAll(column, row, 1),
                    partOfColourAll(column, row, 2));
        }
    }

    static int partOfColourAll(int column, int row, int part) {
        return (91 * column + 53 * row + 37 * part + 29 * column * row * (part + 1)) % 251;
    }

    /** What a slope is when it is not told, as the document says. */
    static int slopeOfColourAll(int column, int row, int along, int part) {
        int at = along == 0 ? column : row;
        int last = along == 0 ? 4 : 3;
        int behind = Math.min(at + 1, last);
        int ahead = Math.max(at - 1, 0);
        int difference = along == 0
                ? partOfColourAll(behind, row, part) - partOfColourAll(ahead, row, part)
                : partOfColourAll(column, behind, part) - partOfColourAll(column, ahead, part);
        return at == 0 || at == last ? difference : Math.floorDiv(difference, 2);
    }

    /** Moves all corners, so that the patches lie unevenly; some are folded. */
    static void placeAll(ColourPatches mesh) {
        for (int corner = 0; corner < 20; corner++) {
            mesh.move(corner % 5, corner / 5, xOfPlaceAll(corner % 5, corner / 5), yOfPlaceAll(corner % 5, corner / 5));
        }
    }

    static int xOfPlaceAll(int column, int row) {
        return 199 * column + 61 * (row % 2) + 7 * column * row;
    }

    static int yOfPlaceAll(int column, int row) {
        return 211 * row + 83 * (column % 3) + 5 * column * row;
    }

    /** Tells all slopes of the four corners of a patch to be the same. */
    static void flatten(ColourPatches mesh, int patch, int slope) {
        for (int which = 0; which < 24; which++) {
            int corner = which / 6;
            mesh.slope(patch % 4 + corner % 2, patch / 4 + corner / 2, which / 3 % 2, which % 3, slope);
        }
    }

    /** Holds a corner of a patch, with 0 or 8 for u and v. */
    static void holdAt(ColourPatches mesh, int patch, int u, int v, int one, int two, int three) {
        mesh.hold(patch % 4 + u / 8, patch / 4 + v / 8, one, two, three);
    }

    /** Moves the corners of a patch as they are gone around; places has x and y of each. */
    static void place(ColourPatches mesh, int patch, int[][] places) {
        int column = patch % 4;
        int row = patch / 4;
        mesh.move(column, row, places[0][0], places[0][1]);
        mesh.move(column + 1, row, places[1][0], places[1][1]);
        mesh.move(column + 1, row + 1, places[2][0], places[2][1]);
        mesh.move(column, row + 1, places[3][0], places[3][1]);
    }

    /**
     * Four changes on corners (0, 1), (4, 1), (2, 0) and (2, 3), four slopes there, a snapshot, one
     * more change, and a text of one command that can be done: 14 calls; the history is full.
     */
    static void fill(ColourPatches mesh) {
        mesh.hold(0, 1, 10, 20, 30);
        mesh.hold(4, 1, 40, 50, 60);
        mesh.hold(2, 0, 70, 80, 90);
        mesh.hold(2, 3, 100, 110, 120);
        mesh.slope(0, 1, 0, 0, 5);
        mesh.slope(4, 1, 1, 1, -6);
        mesh.slope(2, 0, 0, 2, 7);
        mesh.slope(2, 3, 1, 0, -8);
        mesh.keep();
        mesh.move(4, 3, 900, 700);
        write(mesh, "f01;");
    }

    /** A snapshot, two changes and a text: the history is not full. */
    static void fillHalf(ColourPatches mesh) {
        mesh.keep();
        mesh.hold(1, 2, 200, 100, 0);
        mesh.slope(1, 2, 1, 2, 33);
        write(mesh, "m00:1,2;");
    }
}
