import java.util.ArrayDeque;
import java.util.ArrayList;
import java.util.Arrays;
import java.util.Deque;
import java.util.HashMap;
import java.util.HashSet;
import java.util.List;
import java.util.Map;
import java.util.Set;
import java.util.regex.Matcher;
import java.util.regex.Pattern;

/**
 * Runs of up to 512 calls each, arguments from a fixed row of numbers, against a second program that
 * was written from the document alone in another way (maps, sets and patterns of texts).
 */
public final class ModelTest {
    private static final int RUNS = 600;
    private static final int CALLS = 512;

    public static void main(String[] args) {
        Check.begin("model");
        Map<String, Set<Integer>> answers = new HashMap<>();
        for (int run = 0; run < RUNS; run++) {
            Numbers numbers = new Numbers(run);
            ColourPatches mesh = new ColourPatches();
            Model model = new Model();
            int calls = 0;
            Call made = Call.next(numbers);
            // What comes behind call 512 is free.
            while (calls + made.calls() <= CALLS) {
                int want = made.onModel(model);
                calls += made.calls();
                Check.due("run " + run + ", call " + calls + ": " + made, made.onMesh(mesh), want);
                answers.computeIfAbsent(made.name, name -> new HashSet<>()).add(want);
                made = Call.next(numbers);
            }
        }
        for (String name : answers.keySet()) {
            Check.that("answers of " + name + " are of several kinds", answers.get(name).size() > 1);
        }
        Check.end();
    }

    /** A fixed row of numbers. */
    private static final class Numbers {
        private long state;

        Numbers(int run) {
            state = run * 7919L + 12345;
        }

        int below(int limit) {
            state = state * 6364136223846793005L + 1442695040888963407L;
            return (int) ((state >>> 33) % limit);
        }

        /** Mostly from low to high; now and then just outside, or far. */
        int around(int low, int high) {
            int dice = below(60);
            if (dice == 0) {
                return Check.FAR[below(Check.FAR.length)];
            }
            if (dice == 1) {
                return low - 1;
            }
            if (dice == 2) {
                return high + 1;
            }
            if (dice < 6) {
                return dice == 3 ? low : high;
            }
            return low + below(high - low + 1);
        }
    }

    private static final class Call {
        final String name;
        final int[] given;

        Call(String name, int... given) {
            this.name = name;
            this.given = given;
        }

        int calls() {
            return name.equals("type") ? given.length : 1;
        }

        static Call next(Numbers n) {
            int column = n.around(0, 4);
            int row = n.around(0, 3);
            int patch = n.around(0, 11);
            int part = n.around(0, 2);
            int side = n.around(0, 1);
            int step = n.around(0, 8);
            switch (n.below(34)) {
                case 0: case 1: case 2:
                    return new Call("hold", column, row, n.around(0, 255), n.around(0, 255), n.around(0, 255));
                case 3: case 4:
                    return new Call("free", column, row);
                case 5:
                    return new Call("move", column, row, n.around(0, 999), n.around(0, 999));
                case 6: case 7:
                    return new Call("slope", column, row, side, part, n.around(-255, 255));
                case 8:
                    return new Call("loose", column, row);
                case 9:
                    return new Call("spread", n.below(3) > 0 ? 1 + n.below(3) : n.around(1, 20));
                case 10: case 11: case 12:
                    return new Call("cornerOf", column, row, n.around(0, 12));
                case 13: case 14: case 15: case 16:
                    return new Call("point", patch, step, n.around(0, 8), n.around(0, 4));
                case 17: case 18: case 19:
                    return new Call("patchOf", patch, n.around(0, 5));
                case 20: case 21:
                    return new Call("count", n.around(0, 6));
                case 22:
                    return new Call("agrees", patch, side);
                case 23: case 24:
                    return new Call("crease", patch, side, step, part);
                case 25:
                    return new Call("level", patch, part, n.around(0, 255), n.around(0, 255));
                case 26:
                    return new Call("nearest", n.around(0, 999), n.around(0, 999), n.around(0, 3));
                case 27:
                    return new Call("calm");
                case 28:
                    return new Call(n.below(2) == 0 ? "keep" : "restore");
                case 29:
                    return new Call("undo");
                case 30:
                    return typing(n);
                case 31:
                    return new Call(n.below(4) == 0 ? "clearText" : "fault", n.around(0, 2));
                case 32:
                    return new Call("play");
                default:
                    return typing(n);
            }
        }

        /** Types some signs in one go, mostly a command. */
        static Call typing(Numbers n) {
            StringBuilder text = new StringBuilder();
            int kind = n.below(8);
            String corner = "" + n.below(n.below(8) == 0 ? 6 : 5) + n.below(n.below(8) == 0 ? 6 : 4);
            if (kind < 3) {
                text.append("c" + corner + ":");
                for (int digit = 0; digit < 6; digit++) {
                    text.append("0123456789abcdef".charAt(n.below(16)));
                }
                text.append(";");
            } else if (kind < 5) {
                text.append("m" + corner + ":" + n.below(1000) + "," + n.below(1000) + ";");
            } else {
                text.append("f" + corner + ";");
            }
            if (n.below(8) == 0) {
                text.setCharAt(n.below(text.length()), "cfm:;,0af19g A".charAt(n.below(14)));
            }
            if (n.below(10) == 0) {
                text.deleteCharAt(n.below(text.length()));
            }
            int[] signs = new int[text.length() + 1];
            for (int at = 0; at < text.length(); at++) {
                signs[at] = text.charAt(at);
            }
            signs[text.length()] = n.below(20) == 0 ? n.around(32, 126) : 0;
            return new Call("type", n.below(4) == 0 ? Arrays.copyOf(signs, 1) : signs);
        }

        int onMesh(ColourPatches m) {
            int[] g = given;
            switch (name) {
                case "hold": return m.hold(g[0], g[1], g[2], g[3], g[4]);
                case "free": return m.free(g[0], g[1]);
                case "move": return m.move(g[0], g[1], g[2], g[3]);
                case "slope": return m.slope(g[0], g[1], g[2], g[3], g[4]);
                case "loose": return m.loose(g[0], g[1]);
                case "spread": return m.spread(g[0]);
                case "cornerOf": return m.cornerOf(g[0], g[1], g[2]);
                case "point": return m.point(g[0], g[1], g[2], g[3]);
                case "patchOf": return m.patchOf(g[0], g[1]);
                case "count": return m.count(g[0]);
                case "agrees": return m.agrees(g[0], g[1]);
                case "crease": return m.crease(g[0], g[1], g[2], g[3]);
                case "level": return m.level(g[0], g[1], g[2], g[3]);
                case "nearest": return m.nearest(g[0], g[1], g[2]);
                case "calm": return m.calm();
                case "keep": return m.keep();
                case "restore": return m.restore();
                case "undo": return m.undo();
                case "clearText": return m.clearText();
                case "fault": return m.fault(g[0]);
                case "play": return m.play();
                default:
                    int last = 0;
                    for (int sign : g) {
                        last = m.type(sign);
                    }
                    return last;
            }
        }

        int onModel(Model m) {
            int[] g = given;
            switch (name) {
                case "hold": return m.hold(g);
                case "free": return m.free(g[0], g[1]);
                case "move": return m.move(g);
                case "slope": return m.slope(g);
                case "loose": return m.loose(g[0], g[1]);
                case "spread": return m.spread(g[0]);
                case "cornerOf": return m.cornerOf(g[0], g[1], g[2]);
                case "point": return m.point(g[0], g[1], g[2], g[3]);
                case "patchOf": return m.patchOf(g[0], g[1]);
                case "count": return m.count(g[0]);
                case "agrees": return m.agrees(g[0], g[1]);
                case "crease": return m.crease(g[0], g[1], g[2], g[3]);
                case "level": return m.level(g[0], g[1], g[2], g[3]);
                case "nearest": return m.nearest(g[0], g[1], g[2]);
                case "calm": return m.calm();
                case "keep": return m.keep();
                case "restore": return m.restore();
                case "undo": return m.undo();
                case "clearText": return m.clearText();
                case "fault": return m.fault(g[0]);
                case "play": return m.play();
                default:
                    int last = 0;
                    for (int sign : g) {
                        last = m.type(sign);
                    }
                    return last;
            }
        }

        @Override
        public String toString() {
            return name + Arrays.toString(given);
        }
    }

    /** One corner; immutable in use: a state is a list of copies. */
    private static final class Corner {
        long x;
        long y;
        List<Integer> colour = List.of(128, 128, 128);
        boolean held;
        Map<String, Integer> told = new HashMap<>();

        Corner copy() {
            Corner other = new Corner();
            other.x = x;
            other.y = y;
            other.colour = colour;
            other.held = held;
            other.told = new HashMap<>(told);
            return other;
        }
    }

    private static final class Model {
        Corner[][] at = new Corner[5][4];
        Corner[][] kept = null;
        Deque<Corner[][]> history = new ArrayDeque<>();
        String text = "";

        Model() {
            for (int c = 0; c < 5; c++) {
                for (int r = 0; r < 4; r++) {
                    at[c][r] = new Corner();
                    at[c][r].x = 200 * c;
                    at[c][r].y = 200 * r;
                }
            }
        }

        static boolean in(int number, int low, int high) {
            return low <= number && number <= high;
        }

        static Corner[][] copy(Corner[][] from) {
            Corner[][] to = new Corner[5][4];
            for (int c = 0; c < 5; c++) {
                for (int r = 0; r < 4; r++) {
                    to[c][r] = from[c][r].copy();
                }
            }
            return to;
        }

        void change() {
            history.addLast(copy(at));
            if (history.size() == 5) {
                history.removeFirst();
            }
        }

        List<Corner> all() {
            List<Corner> corners = new ArrayList<>();
            for (Corner[] column : at) {
                corners.addAll(Arrays.asList(column));
            }
            return corners;
        }

        int heldCorners() {
            return (int) all().stream().filter(corner -> corner.held).count();
        }

        boolean noCorner(int c, int r) {
            return !in(c, 0, 4) || !in(r, 0, 3);
        }

        int hold(int[] g) {
            if (noCorner(g[0], g[1]) || !in(g[2], 0, 255) || !in(g[3], 0, 255) || !in(g[4], 0, 255)) {
                return Check.INVALID;
            }
            change();
            Corner corner = at[g[0]][g[1]];
            int was = corner.held ? 1 : 0;
            corner.held = true;
            corner.colour = List.of(g[2], g[3], g[4]);
            return was;
        }

        int free(int c, int r) {
            if (noCorner(c, r)) {
                return Check.INVALID;
            }
            if (!at[c][r].held) {
                return Check.NOT_POSSIBLE;
            }
            change();
            at[c][r].held = false;
            return heldCorners();
        }

        int move(int[] g) {
            if (noCorner(g[0], g[1]) || !in(g[2], 0, 999) || !in(g[3], 0, 999)) {
                return Check.INVALID;
            }
            change();
            at[g[0]][g[1]].x = g[2];
            at[g[0]][g[1]].y = g[3];
            return folded();
        }

        int folded() {
            int number = 0;
            for (int patch = 0; patch < 12; patch++) {
                number += isFolded(patch) ? 1 : 0;
            }
            return number;
        }

        List<Corner> around(int patch) {
            int c = patch % 4;
            int r = patch / 4;
            return List.of(at[c][r], at[c + 1][r], at[c + 1][r + 1], at[c][r + 1]);
        }

        boolean isFolded(int patch) {
            List<Corner> ring = around(patch);
            boolean folded = false;
            for (int i = 0; i < 4; i++) {
                Corner a = ring.get((i + 3) % 4);
                Corner b = ring.get(i);
                Corner c = ring.get((i + 1) % 4);
                folded |= (b.x - a.x) * (c.y - b.y) - (b.y - a.y) * (c.x - b.x) <= 0;
            }
            return folded;
        }

        int slope(int[] g) {
            if (noCorner(g[0], g[1]) || !in(g[2], 0, 1) || !in(g[3], 0, 2) || !in(g[4], -255, 255)) {
                return Check.INVALID;
            }
            int was = slopeOf(g[0], g[1], g[2], g[3]);
            change();
            at[g[0]][g[1]].told.put(g[2] + " " + g[3], g[4]);
            return was;
        }

        int slopeOf(int c, int r, int along, int part) {
            Integer told = at[c][r].told.get(along + " " + part);
            if (told != null) {
                return told;
            }
            List<Integer> line = new ArrayList<>();
            int here = along == 0 ? c : r;
            for (int i = 0; i < (along == 0 ? 5 : 4); i++) {
                line.add((along == 0 ? at[i][r] : at[c][i]).colour.get(part));
            }
            int former = Math.max(0, here - 1);
            int latter = Math.min(line.size() - 1, here + 1);
            double difference = line.get(latter) - line.get(former);
            return (int) Math.floor(latter - former == 2 ? difference / 2 : difference);
        }

        int loose(int c, int r) {
            if (noCorner(c, r)) {
                return Check.INVALID;
            }
            int told = at[c][r].told.size();
            if (told == 0) {
                return Check.NOT_POSSIBLE;
            }
            change();
            at[c][r].told.clear();
            return told;
        }

        /** One round; tells the number of corners that have another colour. */
        static int round(Corner[][] mesh) {
            Corner[][] was = copy(mesh);
            int changed = 0;
            for (int c = 0; c < 5; c++) {
                for (int r = 0; r < 4; r++) {
                    if (mesh[c][r].held) {
                        continue;
                    }
                    List<Corner> beside = new ArrayList<>();
                    for (int[] by : new int[][] {{1, 0}, {-1, 0}, {0, 1}, {0, -1}}) {
                        if (in(c + by[0], 0, 4) && in(r + by[1], 0, 3)) {
                            beside.add(was[c + by[0]][r + by[1]]);
                        }
                    }
                    List<Integer> colour = new ArrayList<>();
                    for (int part = 0; part < 3; part++) {
                        int index = part;
                        colour.add(beside.stream().mapToInt(corner -> corner.colour.get(index)).sum() / beside.size());
                    }
                    mesh[c][r].colour = colour;
                    changed += colour.equals(was[c][r].colour) ? 0 : 1;
                }
            }
            return changed;
        }

        int spread(int rounds) {
            if (!in(rounds, 1, 20)) {
                return Check.INVALID;
            }
            change();
            int last = 0;
            for (int i = 0; i < rounds; i++) {
                last = round(at);
            }
            return last;
        }

        int cornerOf(int c, int r, int what) {
            if (noCorner(c, r) || !in(what, 0, 12)) {
                return Check.INVALID;
            }
            Corner corner = at[c][r];
            int[] told = {(int) corner.x, (int) corner.y, corner.colour.get(0), corner.colour.get(1),
                corner.colour.get(2), corner.held ? 1 : 0, slopeOf(c, r, 0, 0), slopeOf(c, r, 0, 1),
                slopeOf(c, r, 0, 2), slopeOf(c, r, 1, 0), slopeOf(c, r, 1, 1), slopeOf(c, r, 1, 2),
                corner.told.size()};
            return told[what];
        }

        int colour(int patch, int u, int v, int part) {
            long[] byColumn = {2L * u * u * u - 24 * u * u + 512, 24L * u * u - 2 * u * u * u};
            long[] byRow = {2L * v * v * v - 24 * v * v + 512, 24L * v * v - 2 * v * v * v};
            long[] slopeByColumn = {(long) u * u * u - 16 * u * u + 64 * u, (long) u * u * u - 8 * u * u};
            long[] slopeByRow = {(long) v * v * v - 16 * v * v + 64 * v, (long) v * v * v - 8 * v * v};
            long sum = 0;
            for (int i = 0; i < 2; i++) {
                for (int j = 0; j < 2; j++) {
                    int c = patch % 4 + i;
                    int r = patch / 4 + j;
                    sum += at[c][r].colour.get(part) * byColumn[i] * byRow[j];
                    sum += slopeOf(c, r, 0, part) * slopeByColumn[i] * byRow[j];
                    sum += slopeOf(c, r, 1, part) * byColumn[i] * slopeByRow[j];
                }
            }
            double whole = Math.floor(sum / 262144.0);
            return (int) (whole < 0 ? 0 : whole > 255 ? 255 : whole);
        }

        long[] place(int patch, int u, int v) {
            List<Corner> ring = around(patch);
            int[] weight = {(8 - u) * (8 - v), u * (8 - v), u * v, (8 - u) * v};
            long x = 0;
            long y = 0;
            for (int i = 0; i < 4; i++) {
                x += ring.get(i).x * weight[i];
                y += ring.get(i).y * weight[i];
            }
            return new long[] {x / 64, y / 64};
        }

        int point(int patch, int u, int v, int what) {
            if (!in(patch, 0, 11) || !in(u, 0, 8) || !in(v, 0, 8) || !in(what, 0, 4)) {
                return Check.INVALID;
            }
            return what < 3 ? colour(patch, u, v, what) : (int) place(patch, u, v)[what - 3];
        }

        int patchOf(int patch, int what) {
            if (!in(patch, 0, 11) || !in(what, 0, 5)) {
                return Check.INVALID;
            }
            List<Corner> ring = around(patch);
            if (what == 0) {
                return isFolded(patch) ? 1 : 0;
            }
            if (what == 4) {
                return (int) ring.stream().filter(corner -> corner.held).count();
            }
            if (what == 5) {
                // Twice the area of a quadrangle is the cross product of its diagonals.
                Corner a = ring.get(0);
                Corner b = ring.get(1);
                Corner c = ring.get(2);
                Corner d = ring.get(3);
                return (int) Math.abs((c.x - a.x) * (d.y - b.y) - (c.y - a.y) * (d.x - b.x));
            }
            Set<String> unlike = new HashSet<>();
            int greatest = 0;
            int least = 1000;
            for (int u = 0; u <= 8; u++) {
                for (int v = 0; v <= 8; v++) {
                    int one = colour(patch, u, v, 0);
                    int two = colour(patch, u, v, 1);
                    int three = colour(patch, u, v, 2);
                    unlike.add(one + " " + two + " " + three);
                    greatest = Math.max(greatest, one + two + three);
                    least = Math.min(least, one + two + three);
                }
            }
            return what == 1 ? unlike.size() : what == 2 ? greatest : least;
        }

        int count(int what) {
            Set<List<Integer>> unlike = new HashSet<>();
            int told = 0;
            for (Corner corner : all()) {
                unlike.add(corner.colour);
                told += corner.told.size();
            }
            int[] counts = {heldCorners(), folded(), told, history.size(), text.length(), kept == null ? 0 : 1,
                unlike.size()};
            return in(what, 0, 6) ? counts[what] : Check.INVALID;
        }

        /** The patch beside, or an error code. */
        int beside(int patch, int side) {
            int next = side == 0 ? patch + 1 : patch + 4;
            return next > 11 || side == 0 && next % 4 == 0 ? Check.NOT_FOUND : next;
        }

        int agrees(int patch, int side) {
            if (!in(patch, 0, 11) || !in(side, 0, 1)) {
                return Check.INVALID;
            }
            int next = beside(patch, side);
            if (next < 0) {
                return next;
            }
            boolean agree = true;
            for (int part = 0; part < 3; part++) {
                for (int i = 0; i <= 8; i++) {
                    agree &= side == 0 ? colour(patch, 8, i, part) == colour(next, 0, i, part)
                            : colour(patch, i, 8, part) == colour(next, i, 0, part);
                }
            }
            return agree ? 1 : 0;
        }

        int crease(int patch, int side, int i, int part) {
            if (!in(patch, 0, 11) || !in(side, 0, 1) || !in(i, 0, 8) || !in(part, 0, 2)) {
                return Check.INVALID;
            }
            int next = beside(patch, side);
            if (next < 0) {
                return next;
            }
            int ahead = side == 0 ? colour(patch, 7, i, part) : colour(patch, i, 7, part);
            int edge = side == 0 ? colour(next, 0, i, part) : colour(next, i, 0, part);
            int behind = side == 0 ? colour(next, 1, i, part) : colour(next, i, 1, part);
            return Math.abs(ahead + behind - 2 * edge);
        }

        int level(int patch, int part, int low, int high) {
            if (!in(patch, 0, 11) || !in(part, 0, 2)) {
                return Check.INVALID;
            }
            int points = 0;
            for (int i = 0; i < 81; i++) {
                points += in(colour(patch, i % 9, i / 9, part), low, high) ? 1 : 0;
            }
            return points;
        }

        int nearest(int x, int y, int what) {
            if (!in(x, 0, 999) || !in(y, 0, 999) || !in(what, 0, 3)) {
                return Check.INVALID;
            }
            List<long[]> points = new ArrayList<>();
            for (int patch = 11; patch >= 0; patch--) {
                for (int u = 8; u >= 0; u--) {
                    for (int v = 8; v >= 0; v--) {
                        long[] place = place(patch, u, v);
                        long sum = (place[0] - x) * (place[0] - x) + (place[1] - y) * (place[1] - y);
                        points.add(new long[] {sum, patch, v, u});
                    }
                }
            }
            long[] best = points.stream().min(Arrays::compare).get();
            return (int) (what == 0 ? best[1] : what == 1 ? best[3] : what == 2 ? best[2] : best[0]);
        }

        int calm() {
            Corner[][] trial = copy(at);
            for (int rounds = 0; rounds <= 40; rounds++) {
                if (round(trial) == 0) {
                    return rounds;
                }
            }
            return Check.NOT_FOUND;
        }

        int keep() {
            kept = copy(at);
            return heldCorners();
        }

        int restore() {
            if (kept == null) {
                return Check.NOT_POSSIBLE;
            }
            change();
            at = copy(kept);
            return heldCorners();
        }

        int undo() {
            if (history.isEmpty()) {
                return Check.NOT_POSSIBLE;
            }
            at = history.removeLast();
            return history.size();
        }

        int type(int character) {
            if (!in(character, 32, 126)) {
                return Check.INVALID;
            }
            if (text.length() == 60) {
                return Check.LIMIT;
            }
            text += (char) character;
            return text.length();
        }

        int clearText() {
            int was = text.length();
            text = "";
            return was;
        }

        private static final Pattern HOLD = Pattern.compile("c(\\d)(\\d):([0-9a-f]{2})([0-9a-f]{2})([0-9a-f]{2});");
        private static final Pattern FREE = Pattern.compile("f(\\d)(\\d);");
        private static final Pattern MOVE = Pattern.compile("m(\\d)(\\d):(\\d{1,3}),(\\d{1,3});");

        /** Does the text on another model; answers position, reason, cause and number of commands. */
        int[] tried(Model other) {
            int position = 0;
            int commands = 0;
            while (position < text.length()) {
                String rest = text.substring(position);
                Matcher hold = HOLD.matcher(rest);
                Matcher free = FREE.matcher(rest);
                Matcher move = MOVE.matcher(rest);
                int answer;
                if (hold.lookingAt()) {
                    answer = other.hold(new int[] {number(hold, 1, 10), number(hold, 2, 10), number(hold, 3, 16),
                        number(hold, 4, 16), number(hold, 5, 16)});
                } else if (free.lookingAt()) {
                    answer = other.free(number(free, 1, 10), number(free, 2, 10));
                } else if (move.lookingAt()) {
                    answer = other.move(new int[] {number(move, 1, 10), number(move, 2, 10), number(move, 3, 10),
                        number(move, 4, 10)});
                } else {
                    return new int[] {position, 1, Check.NOT_FOUND, commands};
                }
                if (answer < 0) {
                    return new int[] {position, 2, answer, commands};
                }
                position += rest.indexOf(';') + 1;
                commands++;
            }
            return new int[] {Check.NOT_FOUND, Check.NOT_FOUND, Check.NOT_FOUND, commands};
        }

        static int number(Matcher matcher, int group, int base) {
            return Integer.parseInt(matcher.group(group), base);
        }

        int fault(int what) {
            Model other = new Model();
            other.at = copy(at);
            return in(what, 0, 2) ? tried(other)[what] : Check.INVALID;
        }

        int play() {
            Model other = new Model();
            other.at = copy(at);
            int[] came = tried(other);
            if (came[0] >= 0) {
                return Check.NOT_POSSIBLE;
            }
            change();
            at = other.at;
            return came[3];
        }
    }
}
