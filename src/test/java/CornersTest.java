/** Promises 1 to 7: a new object, hold, free, move, slope, loose, spread. */
public final class CornersTest {
    public static void main(String[] args) throws IllegalAccessException {
        Cases.run(CornersTest.class, args);
    }

    // ---- promise 1

    static void promise01NewPlacesAreTwoHundredTimesColumnAndRow() {
        ColourPatches mesh = new ColourPatches();
        for (int corner = 0; corner < 20; corner++) {
            Check.due(mesh.cornerOf(corner % 5, corner / 5, 0), 200 * (corner % 5));
            Check.due(mesh.cornerOf(corner % 5, corner / 5, 1), 200 * (corner / 5));
        }
    }

    static void promise01NewColoursAreAll128() {
        ColourPatches mesh = new ColourPatches();
        for (int corner = 0; corner < 20; corner++) {
            for (int part = 0; part <= 2; part++) {
                Check.due(mesh.cornerOf(corner % 5, corner / 5, 2 + part), 128);
            }
        }
        Check.due("unlike colours", mesh.count(6), 1);
    }

    static void promise01NewPointsAreAllOfOneColour() {
        ColourPatches mesh = new ColourPatches();
        for (int patch = 0; patch < 12; patch++) {
            for (int part = 0; part <= 2; part++) {
                Check.due("patch " + patch + ", part " + part, mesh.level(patch, part, 128, 128), 81);
            }
        }
    }

    static void promise01NewCornersAreNotHeld() {
        ColourPatches mesh = new ColourPatches();
        for (int corner = 0; corner < 20; corner++) {
            Check.due(mesh.cornerOf(corner % 5, corner / 5, 5), 0);
        }
        Check.due("held corners", mesh.count(0), 0);
    }

    static void promise01NewSlopesAreNotTold() {
        ColourPatches mesh = new ColourPatches();
        for (int corner = 0; corner < 20; corner++) {
            for (int what = 6; what <= 12; what++) {
                Check.due(mesh.cornerOf(corner % 5, corner / 5, what), 0);
            }
        }
        Check.due("told slopes", mesh.count(2), 0);
    }

    static void promise01NewPatchesAreNotFolded() {
        ColourPatches mesh = new ColourPatches();
        for (int patch = 0; patch < 12; patch++) {
            Check.due(mesh.patchOf(patch, 0), 0);
        }
        Check.due("folded patches", mesh.count(1), 0);
    }

    static void promise01NewHistoryIsEmpty() {
        Check.due("states", new ColourPatches().count(3), 0);
        Check.due("undo()", new ColourPatches().undo(), Check.NOT_POSSIBLE);
    }

    static void promise01NewObjectHasNoSnapshot() {
        Check.due("snapshot", new ColourPatches().count(5), 0);
        Check.due("restore()", new ColourPatches().restore(), Check.NOT_POSSIBLE);
    }

    static void promise01NewTextIsEmpty() {
        Check.due("length", new ColourPatches().count(4), 0);
        Check.due("clearText()", new ColourPatches().clearText(), 0);
        Check.due("fault(0)", new ColourPatches().fault(0), Check.NOT_FOUND);
        Check.due("play()", new ColourPatches().play(), 0);
    }

    static void promise01ObjectsHaveNothingInCommon() {
        String before = Look.state(new ColourPatches());
        ColourPatches other = new ColourPatches();
        Look.fill(new ColourPatches());
        Check.same("state", Look.state(other), before);
        for (int what = 0; what <= 5; what++) {
            Check.due("count(" + what + ")", other.count(what), 0);
        }
        Check.same("state of one made then", Look.state(new ColourPatches()), before);
    }

    static void promise01TheLastOfFiveHundredAndTwelveCalls() {
        ColourPatches mesh = new ColourPatches();
        for (int call = 0; call < 508; call++) {
            Check.due("hold, call " + call, mesh.hold(call % 5, call % 4, call % 256, 1, 2), call < 20 ? 0 : 1);
        }
        Check.due("call 509", mesh.cornerOf(507 % 5, 507 % 4, 2), 507 % 256);
        Check.due("call 510", mesh.undo(), 3);
        Check.due("call 511", mesh.cornerOf(507 % 5, 507 % 4, 2), 487 % 256);
        Check.due("call 512", mesh.count(0), 20);
    }

    // ---- promise 2

    static void promise02HoldOfOneNotHeldAnswers0() {
        ColourPatches mesh = new ColourPatches();
        Check.due("hold", mesh.hold(4, 3, 0, 128, 255), 0);
        Check.due("part 0", mesh.cornerOf(4, 3, 2), 0);
        Check.due("part 1", mesh.cornerOf(4, 3, 3), 128);
        Check.due("part 2", mesh.cornerOf(4, 3, 4), 255);
        Check.due("held", mesh.cornerOf(4, 3, 5), 1);
    }

    static void promise02HoldOfOneHeldAnswers1() {
        ColourPatches mesh = new ColourPatches();
        mesh.hold(4, 3, 0, 128, 255);
        Check.due("hold again", mesh.hold(4, 3, 1, 2, 3), 1);
        Check.due("part 0", mesh.cornerOf(4, 3, 2), 1);
        Check.due("part 2", mesh.cornerOf(4, 3, 4), 3);
        Check.due("held", mesh.cornerOf(4, 3, 5), 1);
        Check.due("held corners", mesh.count(0), 1);
    }

    static void promise02HoldOfOneFreedAnswers0() {
        ColourPatches mesh = new ColourPatches();
        mesh.hold(2, 2, 1, 2, 3);
        mesh.free(2, 2);
        Check.due("hold", mesh.hold(2, 2, 1, 2, 3), 0);
    }

    static void promise02HoldWithTheSameColourIsAChange() {
        ColourPatches mesh = new ColourPatches();
        mesh.hold(2, 2, 1, 2, 3);
        mesh.hold(2, 2, 1, 2, 3);
        Check.due("states", mesh.count(3), 2);
    }

    static void promise02HoldLeavesPlaceAndSlopesAndOtherCorners() {
        Look.sameState("of all else", mesh -> {
            mesh.move(1, 1, 7, 8);
            mesh.slope(1, 1, 0, 0, 9);
            mesh.hold(1, 1, 128, 128, 128);
            mesh.free(1, 1);
        }, mesh -> {
            mesh.move(1, 1, 7, 8);
            mesh.slope(1, 1, 0, 0, 9);
        });
    }

    static void promise02AllTwentyHeld() {
        ColourPatches mesh = new ColourPatches();
        for (int corner = 0; corner < 20; corner++) {
            Check.due("hold", mesh.hold(corner % 5, corner / 5, 5, 6, 7), 0);
            Check.due("held corners", mesh.count(0), corner + 1);
        }
        for (int corner = 0; corner < 20; corner++) {
            Check.due("hold again", mesh.hold(corner % 5, corner / 5, 5, 6, 7), 1);
        }
    }

    // ---- promise 3

    static void promise03FreeOfTheOnlyHeldOneAnswers0() {
        ColourPatches mesh = new ColourPatches();
        mesh.hold(2, 1, 9, 8, 7);
        Check.due("free", mesh.free(2, 1), 0);
        Check.due("held", mesh.cornerOf(2, 1, 5), 0);
    }

    static void promise03FreeOfOneOfTwentyAnswers19() {
        ColourPatches mesh = new ColourPatches();
        Look.holdAll(mesh, 1, 2, 3);
        for (int corner = 0; corner < 20; corner++) {
            Check.due("free", mesh.free(corner % 5, corner / 5), 19 - corner);
        }
    }

    static void promise03FreeOfOneNeverHeldIsNotPossible() {
        Check.due("free", new ColourPatches().free(2, 1), Check.NOT_POSSIBLE);
    }

    static void promise03FreeTwiceIsNotPossible() {
        ColourPatches mesh = new ColourPatches();
        mesh.hold(2, 1, 9, 8, 7);
        mesh.hold(3, 1, 9, 8, 7);
        Check.due("free", mesh.free(2, 1), 1);
        Check.due("free again", mesh.free(2, 1), Check.NOT_POSSIBLE);
        Check.due("held corners", mesh.count(0), 1);
    }

    static void promise03FreeWhenTheHoldWasUndoneIsNotPossible() {
        ColourPatches mesh = new ColourPatches();
        mesh.hold(2, 1, 9, 8, 7);
        mesh.undo();
        Check.due("free", mesh.free(2, 1), Check.NOT_POSSIBLE);
    }

    static void promise03FreeLeavesTheColour() {
        ColourPatches mesh = new ColourPatches();
        mesh.hold(2, 1, 9, 8, 7);
        mesh.free(2, 1);
        Check.due("part 0", mesh.cornerOf(2, 1, 2), 9);
        Check.due("part 1", mesh.cornerOf(2, 1, 3), 8);
        Check.due("part 2", mesh.cornerOf(2, 1, 4), 7);
    }

    static void promise03FreeLeavesToldSlopesAndPlace() {
        ColourPatches mesh = new ColourPatches();
        mesh.hold(2, 1, 9, 8, 7);
        mesh.slope(2, 1, 0, 1, -3);
        mesh.move(2, 1, 401, 202);
        mesh.free(2, 1);
        Check.due("slope", mesh.cornerOf(2, 1, 7), -3);
        Check.due("told", mesh.cornerOf(2, 1, 12), 1);
        Check.due("x", mesh.cornerOf(2, 1, 0), 401);
        Check.due("y", mesh.cornerOf(2, 1, 1), 202);
    }

    // ---- promise 4

    static void promise04MoveThatFoldsNoneAnswers0() {
        Check.due("move", new ColourPatches().move(1, 1, 201, 202), 0);
    }

    static void promise04MoveToWhereItIsIsAChange() {
        ColourPatches mesh = new ColourPatches();
        Check.due("move", mesh.move(1, 1, 200, 200), 0);
        Check.due("states", mesh.count(3), 1);
    }

    /** Mirrored by its columns each patch is gone around the other way. */
    static void promise04MoveThatFoldsAllAnswers12() {
        ColourPatches mesh = new ColourPatches();
        int folded = 0;
        for (int corner = 0; corner < 20; corner++) {
            folded = mesh.move(corner % 5, corner / 5, 800 - 200 * (corner % 5), 200 * (corner / 5));
        }
        Check.due("the last move", folded, 12);
    }

    static void promise04MoveOntoTheLineBetweenOthersFoldsThePatch() {
        ColourPatches mesh = new ColourPatches();
        Check.due("on the line", mesh.move(0, 0, 100, 100), 1);
        Check.due("ahead of it", mesh.move(0, 0, 100, 99), 0);
        Check.due("behind it", mesh.move(0, 0, 100, 101), 1);
    }

    static void promise04MoveToLeastAndGreatestPlaces() {
        ColourPatches mesh = new ColourPatches();
        // Patch 0 is only stretched; the other three of the corner are folded.
        Check.due("to 999, 999", mesh.move(1, 1, 999, 999), 3);
        Check.due("x", mesh.cornerOf(1, 1, 0), 999);
        Check.due("y", mesh.cornerOf(1, 1, 1), 999);
        Check.due("back", mesh.move(1, 1, 200, 200), 0);
        Check.due("to 0, 0", mesh.move(4, 3, 0, 0), 1);
        Check.due("x", mesh.cornerOf(4, 3, 0), 0);
        Check.due("y", mesh.cornerOf(4, 3, 1), 0);
    }

    static void promise04MoveLeavesColourSlopesAndHeld() {
        Look.sameState("of all else", mesh -> {
            mesh.hold(1, 1, 7, 8, 9);
            mesh.slope(1, 1, 1, 1, 10);
            mesh.move(1, 1, 5, 6);
            mesh.move(1, 1, 200, 200);
        }, mesh -> {
            mesh.hold(1, 1, 7, 8, 9);
            mesh.slope(1, 1, 1, 1, 10);
        });
    }

    // ---- promise 5

    /** Part 0 along row 1 is 10, 35, 21, 200, 8. */
    private static ColourPatches alongARow() {
        ColourPatches mesh = new ColourPatches();
        int[] values = {10, 35, 21, 200, 8};
        for (int column = 0; column < 5; column++) {
            mesh.hold(column, 1, values[column], 128, 128);
        }
        return mesh;
    }

    /** Part 2 along column 2 is 90, 60, 81, 3. */
    private static ColourPatches alongAColumn() {
        ColourPatches mesh = new ColourPatches();
        int[] values = {90, 60, 81, 3};
        for (int row = 0; row < 4; row++) {
            mesh.hold(2, row, 128, 128, values[row]);
        }
        return mesh;
    }

    static void promise05SlopeAtTheFirstColumnIsTheNextLessItself() {
        Check.due(alongARow().slope(0, 1, 0, 0, 0), 35 - 10);
    }

    static void promise05SlopeAtTheLastColumnIsItselfLessTheOneAhead() {
        Check.due(alongARow().slope(4, 1, 0, 0, 0), 8 - 200);
    }

    static void promise05SlopeAtTheFirstRowIsTheNextLessItself() {
        Check.due(alongAColumn().slope(2, 0, 1, 2, 0), 60 - 90);
    }

    static void promise05SlopeAtTheLastRowIsItselfLessTheOneAhead() {
        Check.due(alongAColumn().slope(2, 3, 1, 2, 0), 3 - 81);
    }

    /** Every slope of a mesh of uneven colours, worked out from the parts beside. */
    static void promise05SlopesNotToldOfEveryCorner() {
        ColourPatches mesh = Look.behind(Look::colourAll);
        for (int which = 0; which < 120; which++) {
            int column = which / 6 % 5;
            int row = which / 30;
            int along = which / 3 % 2;
            int part = which % 3;
            int want = Look.slopeOfColourAll(column, row, along, part);
            Check.due("slope(" + column + ", " + row + ", " + along + ", " + part + ")",
                    mesh.slope(column, row, along, part, 1), want);
        }
    }

    static void promise05SlopeInsideIsHalfRoundedDown() {
        Check.due("column 1, 11 / 2", alongARow().slope(1, 1, 0, 0, 0), 5);
        Check.due("column 2, 165 / 2", alongARow().slope(2, 1, 0, 0, 0), 82);
    }

    static void promise05SlopeInsideBelow0IsHalfRoundedDown() {
        Check.due("column 3, -13 / 2", alongARow().slope(3, 1, 0, 0, 0), -7);
        Check.due("row 1, -9 / 2", alongAColumn().slope(2, 1, 1, 2, 0), -5);
        Check.due("row 2, -57 / 2", alongAColumn().slope(2, 2, 1, 2, 0), -29);
    }

    static void promise05SlopeInsideOfMinusOneIsMinusOne() {
        ColourPatches mesh = new ColourPatches();
        mesh.hold(0, 1, 129, 127, 128);
        Check.due("half of -1", mesh.slope(1, 1, 0, 0, 0), -1);
        Check.due("half of 1", mesh.slope(1, 1, 0, 1, 0), 0);
        Check.due("half of 0", mesh.slope(1, 1, 0, 2, 0), 0);
    }

    static void promise05SlopeNotToldIsFrom255ToMinus255AtAnEnd() {
        ColourPatches mesh = new ColourPatches();
        mesh.hold(0, 0, 0, 255, 0);
        mesh.hold(1, 0, 255, 0, 0);
        Check.due("255", mesh.slope(0, 0, 0, 0, 1), 255);
        Check.due("-255", mesh.slope(0, 0, 0, 1, 1), -255);
    }

    static void promise05SlopeToldToTheLeastAndTheGreatest() {
        ColourPatches mesh = new ColourPatches();
        Check.due("not told", mesh.slope(2, 1, 1, 2, -255), 0);
        Check.due("the least", mesh.slope(2, 1, 1, 2, 255), -255);
        Check.due("the greatest", mesh.slope(2, 1, 1, 2, 0), 255);
        Check.due("0", mesh.slope(2, 1, 1, 2, 1), 0);
        Check.due("1", mesh.cornerOf(2, 1, 11), 1);
    }

    static void promise05SlopeToldToBe0IsTold() {
        ColourPatches mesh = alongARow();
        mesh.slope(1, 1, 0, 0, 0);
        Check.due("what it is", mesh.cornerOf(1, 1, 6), 0);
        Check.due("told", mesh.cornerOf(1, 1, 12), 1);
        Check.due("told in all", mesh.count(2), 1);
    }

    static void promise05SlopeToldAsItIsIsAChange() {
        ColourPatches mesh = new ColourPatches();
        mesh.slope(1, 1, 0, 0, 4);
        mesh.slope(1, 1, 0, 0, 4);
        Check.due("states", mesh.count(3), 2);
        Check.due("told once", mesh.count(2), 1);
    }

    static void promise05SlopeTellsOneOfSix() {
        for (int which = 0; which < 6; which++) {
            ColourPatches mesh = new ColourPatches();
            mesh.slope(2, 2, which / 3, which % 3, 50);
            for (int what = 0; what < 6; what++) {
                Check.due("slope " + what + " when " + which + " is told", mesh.cornerOf(2, 2, 6 + what), what == which ? 50 : 0);
            }
            Check.due("told", mesh.count(2), 1);
        }
    }

    static void promise05SlopeToldStaysWhenColoursBecomeOthers() {
        ColourPatches mesh = new ColourPatches();
        mesh.slope(2, 1, 1, 0, 6);
        mesh.hold(2, 0, 255, 255, 255);
        Check.due("told", mesh.cornerOf(2, 1, 9), 6);
        Check.due("not told", mesh.cornerOf(2, 1, 10), -64);
    }

    // ---- promise 6

    static void promise06LooseOfOneToldAnswers1() {
        for (int which = 0; which < 6; which++) {
            ColourPatches mesh = new ColourPatches();
            mesh.slope(3, 2, which / 3, which % 3, 11);
            Check.due("loose", mesh.loose(3, 2), 1);
            Check.due("slope", mesh.cornerOf(3, 2, 6 + which), 0);
            Check.due("told", mesh.cornerOf(3, 2, 12), 0);
        }
    }

    static void promise06LooseOfAllToldAnswers6() {
        ColourPatches mesh = new ColourPatches();
        for (int which = 0; which < 6; which++) {
            mesh.slope(3, 2, which / 3, which % 3, 11);
        }
        Check.due("loose", mesh.loose(3, 2), 6);
        for (int which = 0; which < 6; which++) {
            Check.due("slope", mesh.cornerOf(3, 2, 6 + which), 0);
        }
        Check.due("told", mesh.count(2), 0);
    }

    static void promise06LooseWithNoneToldIsNotPossible() {
        Check.due("loose", new ColourPatches().loose(3, 2), Check.NOT_POSSIBLE);
    }

    static void promise06LooseTwiceIsNotPossible() {
        ColourPatches mesh = new ColourPatches();
        mesh.slope(3, 2, 0, 0, 11);
        mesh.loose(3, 2);
        Check.due("loose again", mesh.loose(3, 2), Check.NOT_POSSIBLE);
    }

    static void promise06LooseOfSlopesThatAreNot0ButNotToldIsNotPossible() {
        ColourPatches mesh = new ColourPatches();
        mesh.hold(3, 2, 1, 2, 3);
        Check.that("there is a slope", mesh.cornerOf(2, 2, 6) != 0);
        Check.due("loose", mesh.loose(2, 2), Check.NOT_POSSIBLE);
    }

    static void promise06LooseOfOneToldToBe0Answers1() {
        ColourPatches mesh = new ColourPatches();
        mesh.slope(0, 0, 1, 2, 0);
        Check.due("loose", mesh.loose(0, 0), 1);
    }

    static void promise06LooseLeavesThoseOfOtherCorners() {
        ColourPatches mesh = new ColourPatches();
        mesh.slope(2, 3, 0, 0, 5);
        mesh.slope(3, 3, 1, 2, 6);
        mesh.slope(4, 3, 0, 0, 7);
        Check.due("loose", mesh.loose(3, 3), 1);
        Check.due("ahead of it", mesh.cornerOf(2, 3, 6), 5);
        Check.due("behind it", mesh.cornerOf(4, 3, 6), 7);
        Check.due("told in all", mesh.count(2), 2);
    }

    static void promise06SlopesThatAreLooseAreTakenFromBesideAgain() {
        ColourPatches mesh = alongARow();
        mesh.slope(3, 1, 0, 0, 99);
        mesh.loose(3, 1);
        Check.due("slope", mesh.cornerOf(3, 1, 6), -7);
    }

    // ---- promise 7

    static void promise07SpreadOfAnEvenMeshAnswers0AndIsAChange() {
        ColourPatches mesh = new ColourPatches();
        Check.due("one round", mesh.spread(1), 0);
        Check.due("twenty rounds", mesh.spread(20), 0);
        Check.due("states", mesh.count(3), 2);
    }

    static void promise07SpreadWithAllHeldAnswers0() {
        Look.sameState("behind the spread", mesh -> {
            for (int corner = 0; corner < 20; corner++) {
                mesh.hold(corner % 5, corner / 5, 12 * corner, 255 - corner, corner);
            }
            Check.due("spread", mesh.spread(20), 0);
        }, mesh -> {
            for (int corner = 0; corner < 20; corner++) {
                mesh.hold(corner % 5, corner / 5, 12 * corner, 255 - corner, corner);
            }
        });
    }

    static void promise07SpreadOfAllTwentyAnswers20() {
        ColourPatches mesh = new ColourPatches();
        for (int corner = 0; corner < 20; corner++) {
            mesh.hold(corner % 5, corner / 5, (corner % 5 + corner / 5) % 2 * 200, 7, 7);
        }
        Look.freeAll(mesh);
        Check.due("spread", mesh.spread(1), 20);
        Check.due("a corner", mesh.cornerOf(0, 0, 2), 200);
        Check.due("one beside", mesh.cornerOf(1, 0, 2), 0);
    }

    private static ColourPatches allHeldBut(int column, int row, int one, int two, int three) {
        ColourPatches mesh = new ColourPatches();
        Look.holdAll(mesh, 9, 9, 9);
        mesh.hold(column, row, one, two, three);
        mesh.free(column, row);
        return mesh;
    }

    static void promise07SpreadCountsACornerOnceByAnyOfItsParts() {
        Check.due("part 0", allHeldBut(2, 1, 8, 9, 9).spread(1), 1);
        Check.due("part 1", allHeldBut(2, 1, 9, 10, 9).spread(1), 1);
        Check.due("part 2", allHeldBut(2, 1, 9, 9, 8).spread(1), 1);
        Check.due("all parts", allHeldBut(2, 1, 1, 2, 3).spread(1), 1);
        Check.due("no part", allHeldBut(2, 1, 9, 9, 9).spread(1), 0);
    }

    static void promise07SpreadAnswersForTheLastRoundAlone() {
        Check.due("the first round", allHeldBut(2, 1, 1, 2, 3).spread(1), 1);
        Check.due("two rounds", allHeldBut(2, 1, 1, 2, 3).spread(2), 0);
        Check.due("twenty rounds", allHeldBut(2, 1, 1, 2, 3).spread(20), 0);
    }

    static void promise07SpreadLeavesHeldCorners() {
        ColourPatches mesh = new ColourPatches();
        mesh.hold(2, 1, 0, 128, 255);
        // Of the four beside, (2, 0) has three beside and the others have four.
        Check.due("spread", mesh.spread(1), 4);
        Check.due("part 0", mesh.cornerOf(2, 1, 2), 0);
        Check.due("part 2", mesh.cornerOf(2, 1, 4), 255);
        Check.due("three beside", mesh.cornerOf(2, 0, 2), 85);
        Check.due("four beside", mesh.cornerOf(1, 1, 2), 96);
        Check.due("four beside, rounded down", mesh.cornerOf(3, 1, 4), 159);
        Check.due("not beside", mesh.cornerOf(0, 0, 2), 128);
    }

    private static ColourPatches oneFreeAmong(int column, int row, int value, int lower, int lowerColumn, int lowerRow) {
        ColourPatches mesh = new ColourPatches();
        Look.holdAll(mesh, value, value, value);
        mesh.hold(lowerColumn, lowerRow, lower, lower, lower);
        mesh.free(column, row);
        mesh.spread(1);
        return mesh;
    }

    static void promise07SpreadWithTwoBesideRoundsDown() {
        Check.due("(0, 0)", oneFreeAmong(0, 0, 255, 254, 1, 0).cornerOf(0, 0, 2), 254);
        Check.due("(4, 0)", oneFreeAmong(4, 0, 1, 0, 4, 1).cornerOf(4, 0, 3), 0);
        Check.due("(0, 3)", oneFreeAmong(0, 3, 100, 0, 1, 3).cornerOf(0, 3, 4), 50);
        Check.due("(4, 3)", oneFreeAmong(4, 3, 100, 0, 4, 2).cornerOf(4, 3, 2), 50);
    }

    static void promise07SpreadWithThreeBesideRoundsDown() {
        Check.due("(2, 0)", oneFreeAmong(2, 0, 255, 254, 2, 1).cornerOf(2, 0, 2), 254);
        Check.due("(0, 1)", oneFreeAmong(0, 1, 1, 0, 0, 2).cornerOf(0, 1, 3), 0);
        Check.due("(4, 2)", oneFreeAmong(4, 2, 90, 0, 3, 2).cornerOf(4, 2, 4), 60);
        Check.due("(1, 3)", oneFreeAmong(1, 3, 90, 0, 1, 2).cornerOf(1, 3, 2), 60);
    }

    static void promise07SpreadWithFourBesideRoundsDown() {
        Check.due("one less by column", oneFreeAmong(2, 1, 255, 254, 1, 1).cornerOf(2, 1, 2), 254);
        Check.due("one less by row", oneFreeAmong(2, 1, 1, 0, 2, 2).cornerOf(2, 1, 3), 0);
        Check.due("one is 0", oneFreeAmong(1, 2, 100, 0, 2, 2).cornerOf(1, 2, 4), 75);
        Check.due("one is 0", oneFreeAmong(3, 2, 100, 0, 3, 1).cornerOf(3, 2, 4), 75);
        Check.due("across is not beside", oneFreeAmong(3, 2, 100, 0, 2, 1).cornerOf(3, 2, 4), 100);
    }

    /** All are 0 but one, which is 240: each other one is 240 by so many as are beside it, or 0. */
    static void promise07BesideAreThoseOneColumnOrOneRowAway() {
        for (int lit = 0; lit < 20; lit++) {
            ColourPatches mesh = new ColourPatches();
            Look.holdAll(mesh, 0, 0, 0);
            Look.freeAll(mesh);
            mesh.hold(lit % 5, lit / 5, 240, 0, 0);
            mesh.spread(1);
            for (int corner = 0; corner < 20; corner++) {
                int away = Math.abs(corner % 5 - lit % 5) + Math.abs(corner / 5 - lit / 5);
                int beside = 4 - (corner % 5 % 4 == 0 ? 1 : 0) - (corner / 5 % 3 == 0 ? 1 : 0);
                int want = away == 0 ? 240 : away == 1 ? 240 / beside : 0;
                Check.due("corner " + corner + " by " + lit, mesh.cornerOf(corner % 5, corner / 5, 2), want);
            }
        }
    }

    /** Every third corner is held; the others have the sum of the parts beside, divided and rounded down. */
    static void promise07SpreadOfAnUnevenMesh() {
        ColourPatches mesh = Look.behind(Look::colourAll);
        for (int corner = 0; corner < 20; corner++) {
            if (corner % 3 != 0) {
                mesh.free(corner % 5, corner / 5);
            }
        }
        Check.due("spread", mesh.spread(1), 13);
        for (int which = 0; which < 60; which++) {
            int column = which / 3 % 5;
            int row = which / 15;
            int part = which % 3;
            int want = which / 3 % 3 == 0 ? Look.partOfColourAll(column, row, part) : meanBeside(column, row, part);
            Check.due("part " + part + " of " + column + ", " + row, mesh.cornerOf(column, row, 2 + part), want);
        }
    }

    private static int meanBeside(int column, int row, int part) {
        int sum = 0;
        int beside = 0;
        for (int other = 0; other < 20; other++) {
            if (Math.abs(other % 5 - column) + Math.abs(other / 5 - row) == 1) {
                sum += Look.partOfColourAll(other % 5, other / 5, part);
                beside++;
            }
        }
        return Math.floorDiv(sum, beside);
    }

    static void promise07SpreadTakesTheColoursAheadOfTheRound() {
        ColourPatches mesh = new ColourPatches();
        Look.holdAll(mesh, 0, 0, 0);
        Look.freeAll(mesh);
        mesh.hold(0, 0, 255, 0, 0);
        Check.due("spread", mesh.spread(1), 2);
        Check.due("beside by column", mesh.cornerOf(1, 0, 2), 85);
        Check.due("beside by row", mesh.cornerOf(0, 1, 2), 85);
        Check.due("beside those", mesh.cornerOf(1, 1, 2), 0);
        Check.due("beside one of those", mesh.cornerOf(2, 0, 2), 0);
    }

    /** Several rounds are those rounds one by one, and one change; the answer is that of the last one. */
    static void promise07SpreadOfOneToTwentyRoundsIsSoManyRounds() {
        for (int rounds = 1; rounds <= 20; rounds++) {
            int many = rounds;
            int[] last = new int[1];
            String single = Look.state(mesh -> {
                mesh.hold(0, 0, 255, 0, 128);
                mesh.hold(4, 3, 0, 255, 128);
                for (int round = 0; round < many; round++) {
                    last[0] = mesh.spread(1);
                }
            });
            String together = Look.state(mesh -> {
                mesh.hold(0, 0, 255, 0, 128);
                mesh.hold(4, 3, 0, 255, 128);
                Check.due("spread(" + many + ")", mesh.spread(many), last[0]);
                Check.due("states", mesh.count(3), 3);
            });
            Check.same("state behind " + rounds, together, single);
        }
    }
}
