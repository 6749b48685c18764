import java.util.function.Consumer;

/** Promises 20 to 23: type, clearText, fault, play. */
public final class TextTest {
    /** Eight commands in 60 signs; all of them can be done on a new object. */
    private static final String FULL = "c00:000000;c10:000000;c20:000000;c30:000000;f00;f10;f20;f30;";

    public static void main(String[] args) throws IllegalAccessException {
        Cases.run(TextTest.class, args);
    }

    private static ColourPatches with(String text) {
        ColourPatches mesh = new ColourPatches();
        Look.write(mesh, text);
        return mesh;
    }

    // ---- promise 20

    static void promise20TypeAnswersTheLengthFrom1To60() {
        ColourPatches mesh = new ColourPatches();
        for (int length = 1; length <= 60; length++) {
            Check.due("type", mesh.type(length % 2 == 0 ? 32 : 126), length);
        }
    }

    static void promise20TypeOneSignMoreThan60() {
        ColourPatches mesh = with(FULL);
        Check.due("length", mesh.count(4), 60);
        Check.due("type", mesh.type(59), Check.LIMIT);
        Check.due("type again", mesh.type(59), Check.LIMIT);
        Check.due("length", mesh.count(4), 60);
        Check.due("the text is as it was", mesh.play(), 8);
    }

    static void promise20TypeOfEverySignFrom32To126() {
        for (int sign = 32; sign <= 126; sign++) {
            Check.due("type(" + sign + ")", new ColourPatches().type(sign), 1);
        }
    }

    static void promise20TypeBehindClearTextBeginsAt1() {
        ColourPatches mesh = with(FULL);
        mesh.clearText();
        Check.due("type", mesh.type(99), 1);
    }

    static void promise20TypeIsNoChange() {
        Check.due("states", with(FULL).count(3), 0);
    }

    /** Neither the corners, nor the states of the history, nor the snapshot. */
    static void promise20TypeLeavesAllButTheText() {
        leavesAllButTheText(mesh -> {
            mesh.type('f');
            mesh.type('c');
        });
    }

    private static void leavesAllButTheText(Consumer<ColourPatches> calls) {
        Consumer<ColourPatches> ahead = mesh -> {
            mesh.hold(0, 1, 10, 20, 30);
            mesh.slope(2, 3, 1, 0, -8);
            mesh.keep();
            mesh.move(4, 3, 900, 700);
            mesh.hold(4, 1, 40, 50, 60);
            mesh.free(0, 1);
        };
        Look.sameState("now", ahead.andThen(calls), ahead);
        Look.sameState("restored", ahead.andThen(calls).andThen(ColourPatches::restore), ahead.andThen(ColourPatches::restore));
        Consumer<ColourPatches> undone = ColourPatches::undo;
        for (int times = 1; times <= 5; times++) {
            Look.sameState("undone", ahead.andThen(calls).andThen(undone), ahead.andThen(undone));
            undone = undone.andThen(ColourPatches::undo);
        }
    }

    static void promise20TypeAppends() {
        ColourPatches mesh = with("c12:0a0b0");
        Check.due("not of the form yet", mesh.fault(1), 1);
        mesh.type('c');
        Check.due("not of the form yet", mesh.fault(1), 1);
        mesh.type(';');
        Check.due("of the form", mesh.fault(1), Check.NOT_FOUND);
        mesh.play();
        Check.due("the last sign", mesh.cornerOf(1, 2, 4), 12);
    }

    // ---- promise 21

    static void promise21ClearTextOfAnEmptyOneAnswers0() {
        Check.due("clearText", new ColourPatches().clearText(), 0);
    }

    static void promise21ClearTextOfOneSignAnswers1() {
        Check.due("clearText", with("f").clearText(), 1);
    }

    static void promise21ClearTextOfAFullOneAnswers60() {
        ColourPatches mesh = with(FULL);
        Check.due("clearText", mesh.clearText(), 60);
        Check.due("length", mesh.count(4), 0);
    }

    static void promise21ClearTextTwiceAnswers0() {
        ColourPatches mesh = with("f00;");
        mesh.clearText();
        Check.due("clearText again", mesh.clearText(), 0);
    }

    static void promise21NothingIsLeftOfAClearedText() {
        ColourPatches mesh = with("c00:ffffff;");
        mesh.clearText();
        Check.due("no fault", mesh.fault(0), Check.NOT_FOUND);
        Check.due("no command", mesh.play(), 0);
        mesh.type('c');
        Check.due("what was there is not read", mesh.fault(1), 1);
    }

    static void promise21ClearTextIsNoChange() {
        ColourPatches mesh = with("f00;");
        mesh.hold(0, 0, 1, 2, 3);
        mesh.clearText();
        Check.due("states", mesh.count(3), 1);
        Check.due("held", mesh.cornerOf(0, 0, 5), 1);
    }

    static void promise21ClearTextLeavesAllButTheText() {
        leavesAllButTheText(mesh -> {
            mesh.type('f');
            mesh.clearText();
        });
    }

    // ---- promise 22

    private static void none(ColourPatches mesh, String text) {
        for (int what = 0; what <= 2; what++) {
            Check.due("fault(" + what + ") of " + text, mesh.fault(what), Check.NOT_FOUND);
        }
    }

    private static void notOfTheForm(ColourPatches mesh, String text, int position) {
        Check.due("fault(0) of " + text, mesh.fault(0), position);
        Check.due("fault(1) of " + text, mesh.fault(1), 1);
        Check.due("fault(2) of " + text, mesh.fault(2), Check.NOT_FOUND);
        Check.due("play() of " + text, mesh.play(), Check.NOT_POSSIBLE);
    }

    private static void notDoable(ColourPatches mesh, String text, int position, int cause) {
        Check.due("fault(0) of " + text, mesh.fault(0), position);
        Check.due("fault(1) of " + text, mesh.fault(1), 2);
        Check.due("fault(2) of " + text, mesh.fault(2), cause);
        Check.due("play() of " + text, mesh.play(), Check.NOT_POSSIBLE);
    }

    private static void good(String... texts) {
        for (String text : texts) {
            none(with(text), text);
        }
    }

    private static void bad(String... texts) {
        for (String text : texts) {
            notOfTheForm(with(text), text, 0);
        }
    }

    static void promise22AnEmptyTextHasNoFault() {
        none(new ColourPatches(), "nothing");
    }

    static void promise22AFullTextHasNoFault() {
        none(with(FULL), FULL);
    }

    static void promise22LeastAndGreatestColumnsAndRowsHaveNoFault() {
        good("c00:000000;", "c40:000000;", "c03:000000;", "c43:ffffff;", "m00:0,0;", "m43:999,999;", "c00:123456;f00;",
                "c43:123456;f43;");
    }

    static void promise22EveryDigitOfSixteenHasNoFault() {
        good("c12:012345;", "c12:6789ab;", "c12:cdef00;");
    }

    static void promise22OtherSignsThanDigitsOfSixteen() {
        for (int at = 4; at <= 9; at++) {
            for (char sign : new char[] {'/', ':', '`', 'g', '@', 'A', 'F', 'G', ' ', ';', ',', '-', '~'}) {
                StringBuilder text = new StringBuilder("c12:abcdef;");
                text.setCharAt(at, sign);
                bad(text.toString());
            }
        }
    }

    static void promise22FiveOrSevenDigitsOfSixteen() {
        bad("c12:;", "c12:01234;", "c12:0123456;", "c12:01234567;");
    }

    static void promise22NumbersOfOneToThreeDigitsHaveNoFault() {
        good("m12:0,0;", "m12:9,9;", "m12:10,10;", "m12:99,99;", "m12:100,100;", "m12:999,999;");
    }

    static void promise22NumbersWith0AheadHaveNoFault() {
        good("m12:00,00;", "m12:000,000;", "m12:01,09;", "m12:001,099;", "m12:07,7;");
    }

    static void promise22NumbersOfNoDigit() {
        bad("m12:,5;", "m12:5,;", "m12:,;", "m12:;", "m12:5;");
    }

    static void promise22NumbersOfFourDigits() {
        bad("m12:1000,5;", "m12:5,1000;", "m12:0001,5;", "m12:5,0001;", "m12:0000,5;", "m12:5,0000;");
    }

    static void promise22OtherSignsThanDigitsInNumbers() {
        bad("m12:a,5;", "m12:5,a;", "m12:/,5;", "m12::,5;", "m12:5,/;", "m12:5,:;", "m12:-1,5;", "m12:5,-1;", "m12:+1,5;",
                "m12: 1,5;", "m12:1 ,5;", "m12:5, 1;", "m12:5,1 ;", "m12:1.5;", "m12:1;5;", "m12:1,5,5;", "m12:1a,5;", "m12:5,1a;");
    }

    static void promise22ColumnsAndRowsOfOneDigit() {
        bad("c0:000000;", "c:000000;", "c000:000000;", "f0;", "f;", "f000;", "m0:1,1;", "m:1,1;", "m000:1,1;");
    }

    static void promise22OtherSignsThanDigitsForColumnsAndRows() {
        for (char sign : new char[] {'/', ':', 'a', 'f', ' ', '-', ';'}) {
            bad("c" + sign + "0:000000;", "c0" + sign + ":000000;", "f" + sign + "0;", "f0" + sign + ";",
                    "m" + sign + "0:1,1;", "m0" + sign + ":1,1;");
        }
    }

    static void promise22OtherSignsThanAColon() {
        bad("c00;000000;", "c00 000000;", "c00,000000;", "c00000000;", "c00::000000;", "m00;1,1;", "m00 1,1;", "m001,1;",
                "m00::1,1;", "f00:;");
    }

    static void promise22OtherSignsThanTheLastOne() {
        for (char sign : new char[] {':', '<', ',', ' ', '0', 'c', '.'}) {
            bad("c00:000000" + sign, "c00:000000" + sign + ";", "f00" + sign, "f00" + sign + ";", "m00:100,100" + sign,
                    "m00:100,100" + sign + ";");
        }
    }

    static void promise22OtherSignsThanTheFirstOne() {
        for (char sign : new char[] {'b', 'd', 'e', 'g', 'l', 'n', 'C', 'F', 'M', ' ', ';', '0', ':', '~'}) {
            bad(sign + "00:000000;", sign + "00;", sign + "00:1,1;", sign + "c00:000000;", "" + sign);
        }
    }

    /** Each command without its last signs, down to the first one. */
    static void promise22ATextThatEndsWithinACommand() {
        for (String command : new String[] {"c12:abcdef;", "f12;", "m12:345,678;", "m12:3,6;"}) {
            for (int length = 1; length < command.length(); length++) {
                bad(command.substring(0, length));
            }
        }
    }

    static void promise22ATextThatEndsWithinACommandBehindOthers() {
        String ahead = "c12:010203;f12;m12:4,5;";
        for (String command : new String[] {"c12:abcdef;", "f12;", "m12:345,678;"}) {
            for (int length = 1; length < command.length(); length++) {
                String text = ahead + command.substring(0, length);
                notOfTheForm(with(text), text, 23);
            }
        }
    }

    static void promise22AFullTextThatEndsWithinACommand() {
        String withoutEnd = FULL.substring(0, 59) + "0";
        notOfTheForm(with(withoutEnd), withoutEnd, 56);
        String begun = FULL.substring(0, 56) + "c00:";
        notOfTheForm(with(begun), begun, 56);
        String oneSign = "m00:0,0;m00:0,0;m00:0,0;m00:0,0;m00:0,0;m00:0,0;m00:00,00;" + "ff";
        notOfTheForm(with(oneSign), oneSign, 58);
        String lastSign = "m00:0,0;m00:0,0;m00:0,0;m00:0,0;m00:0,0;m00:0,0;m00:00,000;" + "f";
        notOfTheForm(with(lastSign), lastSign, 59);
    }

    /** The sign that would end the last command is refused. */
    static void promise22AFullTextThatEndsWithinACommandByOneSignMore() {
        String text = "c00:000000;c10:000000;c20:000000;c30:000000;f00;f10;m20:0,00";
        ColourPatches mesh = with(text);
        Check.due("length", mesh.count(4), 60);
        Check.due("type", mesh.type(';'), Check.LIMIT);
        notOfTheForm(mesh, text, 52);
    }

    static void promise22TheFirstColumnAndRowBeyond() {
        for (String text : new String[] {"c50:000000;", "c04:000000;", "c54:000000;", "c90:000000;", "c09:000000;", "f50;", "f04;",
            "f99;", "m50:1,1;", "m04:1,1;", "m99:1,1;"}) {
            notDoable(with(text), text, 0, Check.INVALID);
        }
    }

    static void promise22FreeOfACornerNotHeld() {
        notDoable(with("f00;"), "f00;", 0, Check.NOT_POSSIBLE);
        notDoable(with("f43;"), "f43;", 0, Check.NOT_POSSIBLE);
    }

    static void promise22FreeOfACornerHeldAheadOfTheText() {
        ColourPatches mesh = with("f43;");
        mesh.hold(4, 3, 1, 2, 3);
        none(mesh, "f43;");
        mesh.free(4, 3);
        notDoable(mesh, "f43;", 0, Check.NOT_POSSIBLE);
        mesh.undo();
        none(mesh, "f43;");
    }

    static void promise22CommandsAheadAreDone() {
        good("c00:012345;f00;", "c21:101010;c22:202020;f21;f22;", "c00:012345;f00;c00:012345;f00;");
        notDoable(with("c00:012345;f00;f00;"), "freed twice", 15, Check.NOT_POSSIBLE);
        notDoable(with("c00:012345;c00:012345;f00;f00;"), "held twice, freed twice", 26, Check.NOT_POSSIBLE);
    }

    static void promise22CommandsBehindAreNotDone() {
        notDoable(with("f00;c00:012345;"), "freed, then held", 0, Check.NOT_POSSIBLE);
    }

    static void promise22TheLastCommandCannotBeDone() {
        notDoable(with("c12:010203;m12:4,5;f21;"), "f at 19", 19, Check.NOT_POSSIBLE);
        notDoable(with("c12:010203;m12:4,5;f50;"), "f at 19", 19, Check.INVALID);
        notDoable(with("c12:010203;m12:4,5;c05:000000;"), "c at 19", 19, Check.INVALID);
        notDoable(with("c12:010203;m12:4,5;m50:1,1;"), "m at 19", 19, Check.INVALID);
    }

    static void promise22TheLastCommandOfAFullTextCannotBeDone() {
        String text = FULL.substring(0, 56) + "f40;";
        notDoable(with(text), text, 56, Check.NOT_POSSIBLE);
    }

    static void promise22TheFirstOfSeveralFaults() {
        notDoable(with("f00;f50;x"), "not held, then none, then another sign", 0, Check.NOT_POSSIBLE);
        notDoable(with("f50;f00;x"), "none, then not held, then another sign", 0, Check.INVALID);
        notOfTheForm(with("x00;f50;f00;"), "another sign, then none", 0);
        notDoable(with("c00:010203;f01;?"), "not held, then another sign", 11, Check.NOT_POSSIBLE);
        notOfTheForm(with("c00:010203;?f01;"), "another sign, then not held", 11);
    }

    static void promise22TheFormIsAskedAheadOfTheCommand() {
        bad("c50:00000g;", "c50:000000", "f50", "f00", "m50:1000,1;", "m50:1,1", "c99:;", "f99:;");
    }

    static void promise22TheCauseIsNotFoundWithReason1() {
        ColourPatches mesh = with("f50");
        Check.due("cause", mesh.fault(2), Check.NOT_FOUND);
        mesh.type(';');
        Check.due("cause, ended", mesh.fault(2), Check.INVALID);
    }

    /** Each command for all columns and rows of one digit, and the call that it tells. */
    static void promise22TheCauseIsWhatTheCallAnswers() {
        for (int corner = 0; corner < 100; corner++) {
            int column = corner / 10;
            int row = corner % 10;
            String place = "" + column + row;
            cause("c" + place + ":0a1fe0;", Look.behind(Look::fill).hold(column, row, 10, 31, 224));
            cause("f" + place + ";", Look.behind(Look::fill).free(column, row));
            cause("m" + place + ":45,999;", Look.behind(Look::fill).move(column, row, 45, 999));
        }
    }

    private static void cause(String command, int answer) {
        ColourPatches mesh = Look.behind(Look::fill);
        Look.rewrite(mesh, command);
        Check.due("reason of " + command, mesh.fault(1), answer < 0 ? 2 : Check.NOT_FOUND);
        Check.due("cause of " + command, mesh.fault(2), answer < 0 ? answer : Check.NOT_FOUND);
        Check.due("play of " + command, mesh.play(), answer < 0 ? Check.NOT_POSSIBLE : 1);
    }

    static void promise22ASignBehindTheLastCommand() {
        for (char sign : new char[] {' ', ';', 'c', 'f', 'm', '0', '~'}) {
            notOfTheForm(with("c12:010203;" + sign), "c12:010203;" + sign, 11);
        }
    }

    // ---- promise 23

    static void promise23PlayOfAnEmptyTextAnswers0AndIsAChange() {
        ColourPatches mesh = new ColourPatches();
        Check.due("play", mesh.play(), 0);
        Check.due("states", mesh.count(3), 1);
        Check.due("play again", mesh.play(), 0);
        Check.due("states", mesh.count(3), 2);
        Check.due("undo", mesh.undo(), 1);
    }

    static void promise23PlayOfAnEmptyTextLeavesTheState() {
        Look.sameState("behind play", mesh -> {
            Look.fill(mesh);
            mesh.clearText();
            Check.due("play", mesh.play(), 0);
        }, Look::fill);
    }

    static void promise23PlayOfAnEmptyTextWithAFullHistoryDropsTheOldest() {
        Look.sameState("undone", mesh -> {
            for (int change = 1; change <= 4; change++) {
                mesh.hold(0, 0, change, 0, 0);
            }
            Check.due("play", mesh.play(), 0);
            for (int left = 3; left >= 0; left--) {
                Check.due("undo", mesh.undo(), left);
            }
            Check.due("undo", mesh.undo(), Check.NOT_POSSIBLE);
        }, mesh -> mesh.hold(0, 0, 1, 0, 0));
    }

    static void promise23PlayOfOneCommandAnswers1() {
        ColourPatches mesh = with("c21:0a1fe0;");
        Check.due("play", mesh.play(), 1);
        Check.due("part 0", mesh.cornerOf(2, 1, 2), 10);
        Check.due("part 1", mesh.cornerOf(2, 1, 3), 31);
        Check.due("part 2", mesh.cornerOf(2, 1, 4), 224);
        Check.due("held", mesh.cornerOf(2, 1, 5), 1);
        Check.due("held corners", mesh.count(0), 1);
    }

    static void promise23PlayOfLeastAndGreatestColours() {
        ColourPatches mesh = with("c00:000000;c43:ffffff;c10:00ff00;c20:ff00ff;");
        Check.due("play", mesh.play(), 4);
        int[][] want = {{0, 0, 0, 0, 0}, {4, 3, 255, 255, 255}, {1, 0, 0, 255, 0}, {2, 0, 255, 0, 255}};
        for (int[] row : want) {
            for (int part = 0; part <= 2; part++) {
                Check.due("part " + part, mesh.cornerOf(row[0], row[1], 2 + part), row[2 + part]);
            }
        }
    }

    static void promise23PlayOfEveryDigitOfSixteen() {
        String digits = "0123456789abcdef";
        for (int digit = 0; digit < 16; digit++) {
            String sign = digits.substring(digit, digit + 1);
            ColourPatches mesh = with("c30:" + sign + "0" + "0" + sign + sign + sign + ";");
            Check.due("play", mesh.play(), 1);
            Check.due("the first digit of two", mesh.cornerOf(3, 0, 2), 16 * digit);
            Check.due("the second one", mesh.cornerOf(3, 0, 3), digit);
            Check.due("both", mesh.cornerOf(3, 0, 4), 17 * digit);
        }
    }

    static void promise23PlayOfLeastAndGreatestPlaces() {
        ColourPatches mesh = with("m11:0,999;m43:999,0;m00:000,09;m01:7,012;");
        Check.due("play", mesh.play(), 4);
        int[][] want = {{1, 1, 0, 999}, {4, 3, 999, 0}, {0, 0, 0, 9}, {0, 1, 7, 12}};
        for (int[] row : want) {
            Check.due("x", mesh.cornerOf(row[0], row[1], 0), row[2]);
            Check.due("y", mesh.cornerOf(row[0], row[1], 1), row[3]);
            Check.due("held", mesh.cornerOf(row[0], row[1], 5), 0);
        }
    }

    static void promise23PlayOfFree() {
        ColourPatches mesh = with("f21;");
        mesh.hold(2, 1, 9, 8, 7);
        Check.due("play", mesh.play(), 1);
        Check.due("held", mesh.cornerOf(2, 1, 5), 0);
        Check.due("its colour stays", mesh.cornerOf(2, 1, 4), 7);
        Check.due("play again", mesh.play(), Check.NOT_POSSIBLE);
    }

    static void promise23PlayDoesWhatTheCallsDo() {
        Look.sameState("played", mesh -> {
            Look.fill(mesh);
            Look.rewrite(mesh, "c01:0a1fe0;f41;m12:345,67;c33:ff0001;f33;m12:8,999;");
            Check.due("play", mesh.play(), 6);
        }, mesh -> {
            Look.fill(mesh);
            mesh.hold(0, 1, 10, 31, 224);
            mesh.free(4, 1);
            mesh.hold(3, 3, 255, 0, 1);
            mesh.free(3, 3);
            mesh.move(1, 2, 8, 999);
        });
    }

    static void promise23PlayOfAFullText() {
        ColourPatches mesh = with(FULL);
        Check.due("play", mesh.play(), 8);
        Check.due("held corners", mesh.count(0), 0);
        Check.due("a corner", mesh.cornerOf(3, 0, 2), 0);
        Check.due("states", mesh.count(3), 1);
    }

    static void promise23PlayOfFifteenCommandsTheMostThereCanBe() {
        ColourPatches mesh = new ColourPatches();
        StringBuilder text = new StringBuilder();
        for (int corner = 0; corner < 15; corner++) {
            mesh.hold(corner % 5, corner / 5, 1, 1, 1);
            text.append('f').append(corner % 5).append(corner / 5).append(';');
        }
        Look.write(mesh, text.toString());
        Check.due("length", mesh.count(4), 60);
        Check.due("play", mesh.play(), 15);
        Check.due("held corners", mesh.count(0), 0);
    }

    static void promise23PlayIsOneChange() {
        Look.sameState("undone", mesh -> {
            Look.fill(mesh);
            Look.rewrite(mesh, "c01:0a1fe0;f41;m12:345,67;c33:ff0001;f33;");
            mesh.undo();
            mesh.play();
            Check.due("states", mesh.count(3), 4);
            Check.due("undo", mesh.undo(), 3);
        }, mesh -> {
            Look.fill(mesh);
            mesh.undo();
        });
    }

    static void promise23PlayLeavesTheText() {
        ColourPatches mesh = with("c21:0a1fe0;m43:1,2;");
        Check.due("play", mesh.play(), 2);
        Check.due("length", mesh.count(4), 19);
        mesh.undo();
        Check.due("play again", mesh.play(), 2);
        Check.due("a corner", mesh.cornerOf(4, 3, 1), 2);
    }

    static void promise23PlayWithAFaultOfTheFormInTheLastCommandDoesNone() {
        Look.changesNothing("behind play", mesh -> {
            Look.fill(mesh);
            Look.rewrite(mesh, "c21:0a1fe0;m43:1,2;f21");
        }, mesh -> Check.due("play", mesh.play(), Check.NOT_POSSIBLE));
    }

    static void promise23PlayWhoseLastCommandCannotBeDoneDoesNone() {
        Look.changesNothing("behind play", mesh -> {
            Look.fill(mesh);
            Look.rewrite(mesh, "c21:0a1fe0;m43:1,2;f22;");
        }, mesh -> Check.due("play", mesh.play(), Check.NOT_POSSIBLE));
    }

    static void promise23PlayWhoseFirstCommandCannotBeDoneDoesNone() {
        Look.changesNothing("behind play", mesh -> {
            Look.fillHalf(mesh);
            Look.rewrite(mesh, "m54:1,2;c21:0a1fe0;");
        }, mesh -> Check.due("play", mesh.play(), Check.NOT_POSSIBLE));
    }
}
