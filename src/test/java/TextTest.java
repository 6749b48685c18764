/** Promises 20 to 23: type, clearText, fault, play. */
public final class TextTest {
    public static void main(String[] args) {
        type();
        clearText();
        forms();
        notOfTheForm();
        notDoable();
        faultBehindOthers();
        faultErrors();
        play();
        playWithAFault();
        fullText();
        Check.end();
    }

    private static void type() {
        ColourPatches mesh = new ColourPatches();
        Check.due("type(31)", mesh.type(31), Check.INVALID);
        Check.due("type(127)", mesh.type(127), Check.INVALID);
        Check.due("type(-1)", mesh.type(-1), Check.INVALID);
        Check.due("type(65536 + 99)", mesh.type(65536 + 99), Check.INVALID);
        for (int far : Check.FAR) {
            Check.due("far", mesh.type(far), Check.INVALID);
        }
        Check.due("none is taken", mesh.count(4), 0);
        for (int length = 1; length <= 60; length++) {
            Check.due("type", mesh.type(length % 2 == 0 ? 32 : 126), length);
        }
        Check.due("type at 60", mesh.type(99), Check.LIMIT);
        Check.due("type out of range at 60", mesh.type(31), Check.INVALID);
        Check.due("length", mesh.count(4), 60);
        Check.due("no change", mesh.count(3), 0);
    }

    private static void clearText() {
        ColourPatches mesh = new ColourPatches();
        Check.due("empty", mesh.clearText(), 0);
        Check.write(mesh, "c00:ff");
        Check.due("clearText", mesh.clearText(), 6);
        Check.due("length", mesh.count(4), 0);
        Check.due("again", mesh.clearText(), 0);
        Check.due("nothing is left of it", mesh.fault(0), Check.NOT_FOUND);
        Check.write(mesh, "c");
        Check.due("what was there is not read", mesh.fault(1), 1);
        Check.due("no change", mesh.count(3), 0);
    }

    private static void forms() {
        String[] good = {"", "c00:000000;", "c43:ffffff;", "c12:09afbc;", "m00:0,0;",
            "m43:999,999;", "m12:00,007;", "m12:1,23;", "m12:12,3;", "c00:012345;f00;", "c00:012345;f00;m00:5,5;c00:abcdef;",
            "c21:101010;c22:202020;f21;f22;"};
        for (String text : good) {
            ColourPatches mesh = new ColourPatches();
            Check.rewrite(mesh, text);
            for (int what = 0; what <= 2; what++) {
                Check.due("fault(" + what + ") of " + text, mesh.fault(what), Check.NOT_FOUND);
            }
        }
    }

    private static void notOfTheForm() {
        String[] bad = {"c", ";", "c0", "c00", "c00:", "c00:00000", "c00:000000", "c00:00000;", "c00:0000000;",
            "c00:00000g;", "c00:00000A;", "c00:g00000;", "c00;", "c00 000000;", "c0a:000000;", "ca0:000000;", "c00:0000 0;",
            "C00:000000;", "f", "f0", "f0;", "f00", "f000;", "f00:;", "f 0;", "F00;", "m00;", "m00:;", "m00:,;",
            "m00:1,;", "m00:,1;", "m00:1;", "m00:1,1", "m00:1000,1;", "m00:1,1000;", "m00:0001,1;", "m00:1.1;",
            "m00:1,1,1;", "m00:-1,1;", "m00:1, 1;", "m00:a,1;", "m00:1,a;", "m00 1,1;", "m0:1,1;", "M00:1,1;", " ", "x00;",
            " f00;", "c00 ", "c-1:000000;", "c:0:000000;", "c0/:000000;", "c00:00000`;", "c00:00000/;", "c00:00000:;"};
        for (String text : bad) {
            ColourPatches mesh = new ColourPatches();
            mesh.hold(0, 0, 1, 1, 1);
            Check.rewrite(mesh, text);
            Check.due("fault(0) of " + text, mesh.fault(0), 0);
            Check.due("fault(1) of " + text, mesh.fault(1), 1);
            Check.due("fault(2) of " + text, mesh.fault(2), Check.NOT_FOUND);
            Check.due("play() of " + text, mesh.play(), Check.NOT_POSSIBLE);
            Check.due("states behind " + text, mesh.count(3), 1);
        }
    }

    private static void notDoable() {
        Object[][] rows = {{"c50:000000;", Check.INVALID}, {"c04:000000;", Check.INVALID}, {"c99:ffffff;", Check.INVALID},
            {"m50:0,0;", Check.INVALID}, {"m04:0,0;", Check.INVALID}, {"f50;", Check.INVALID}, {"f04;", Check.INVALID},
            {"f00;", Check.NOT_POSSIBLE}, {"f43;", Check.NOT_POSSIBLE}};
        for (Object[] row : rows) {
            String text = (String) row[0];
            ColourPatches mesh = new ColourPatches();
            Check.rewrite(mesh, text);
            Check.due("fault(0) of " + text, mesh.fault(0), 0);
            Check.due("fault(1) of " + text, mesh.fault(1), 2);
            Check.due("fault(2) of " + text, mesh.fault(2), (Integer) row[1]);
            Check.due("play() of " + text, mesh.play(), Check.NOT_POSSIBLE);
        }
        ColourPatches mesh = new ColourPatches();
        mesh.hold(0, 0, 1, 1, 1);
        Check.rewrite(mesh, "f00;");
        Check.due("it is held", mesh.fault(0), Check.NOT_FOUND);
        mesh.free(0, 0);
        Check.due("it is held no more", mesh.fault(2), Check.NOT_POSSIBLE);
    }

    private static void faultBehindOthers() {
        ColourPatches mesh = new ColourPatches();
        Check.rewrite(mesh, "c00:010203;f00;f00;");
        Check.due("freed twice", mesh.fault(0), 15);
        Check.due("its reason", mesh.fault(1), 2);
        Check.due("its cause", mesh.fault(2), Check.NOT_POSSIBLE);
        Check.rewrite(mesh, "c00:010203;f00;?");
        Check.due("another sign", mesh.fault(0), 15);
        Check.due("its reason", mesh.fault(1), 1);
        Check.due("its cause", mesh.fault(2), Check.NOT_FOUND);
        Check.rewrite(mesh, "m00:1,1;c00:010203;f01;?");
        Check.due("the first one that is not possible", mesh.fault(0), 19);
        Check.due("its reason", mesh.fault(1), 2);
        Check.rewrite(mesh, "?f01;");
        Check.due("the form first", mesh.fault(0), 0);
        Check.due("the mesh is as it was", mesh.count(0), 0);
        Check.due("x is as it was", mesh.cornerOf(0, 0, 0), 0);
    }

    private static void faultErrors() {
        ColourPatches mesh = new ColourPatches();
        Check.due("fault(-1)", mesh.fault(-1), Check.INVALID);
        Check.due("fault(3)", mesh.fault(3), Check.INVALID);
        for (int far : Check.FAR) {
            Check.due("far", mesh.fault(far), Check.INVALID);
        }
        Check.write(mesh, "x");
        Check.due("fault(3) with a fault", mesh.fault(3), Check.INVALID);
    }

    private static void play() {
        ColourPatches mesh = new ColourPatches();
        Check.due("no text", mesh.play(), 0);
        Check.due("it is a change all the same", mesh.count(3), 1);
        Check.rewrite(mesh, "c21:0a1fe0;m43:007,90;c00:ffffff;f00;");
        String before = Check.state(mesh);
        Check.due("play", mesh.play(), 4);
        Check.due("one change", mesh.count(3), 2);
        Check.due("the text stays", mesh.count(4), 37);
        Check.due("part 0", mesh.cornerOf(2, 1, 2), 10);
        Check.due("part 1", mesh.cornerOf(2, 1, 3), 31);
        Check.due("part 2", mesh.cornerOf(2, 1, 4), 224);
        Check.due("held", mesh.cornerOf(2, 1, 5), 1);
        Check.due("x", mesh.cornerOf(4, 3, 0), 7);
        Check.due("y", mesh.cornerOf(4, 3, 1), 90);
        Check.due("freed", mesh.cornerOf(0, 0, 5), 0);
        Check.due("its colour stays", mesh.cornerOf(0, 0, 2), 255);
        Check.due("held in all", mesh.count(0), 1);
        Check.due("play again", mesh.play(), 4);
        mesh.undo();
        mesh.undo();
        Check.same("undo of play", Check.state(mesh), before);
        Check.due("play once more", mesh.play(), 4);
    }

    private static void playWithAFault() {
        ColourPatches mesh = new ColourPatches();
        String before = Check.state(mesh);
        Check.rewrite(mesh, "c21:0a1fe0;f21;f21;");
        Check.due("play", mesh.play(), Check.NOT_POSSIBLE);
        Check.same("play with a fault", Check.state(mesh), before);
        Check.due("no change", mesh.count(3), 0);
        Check.due("the text stays", mesh.count(4), 19);
    }

    private static void fullText() {
        ColourPatches mesh = new ColourPatches();
        Check.rewrite(mesh, "c00:000000;c10:000000;c20:000000;c30:000000;f00;f10;f20;f30;");
        Check.due("full", mesh.count(4), 60);
        Check.due("play", mesh.play(), 8);
        mesh.hold(0, 0, 1, 1, 1);
        Check.rewrite(mesh, "c00:000000;c10:000000;c20:000000;c30:000000;f00;f10;f20;f3");
        mesh.type('0');
        Check.due("fault at the end of a full text", mesh.fault(0), 56);
        Check.due("its reason", mesh.fault(1), 1);
        mesh.type('?');
        Check.due("its reason with another sign for its end", mesh.fault(1), 1);
        // Fifteen commands of four signs are the most there can be.
        ColourPatches held = new ColourPatches();
        StringBuilder text = new StringBuilder();
        for (int corner = 0; corner < 15; corner++) {
            held.hold(corner % 5, corner / 5, 1, 1, 1);
            text.append('f').append(corner % 5).append(corner / 5).append(';');
        }
        Check.rewrite(held, text.toString());
        Check.due("fifteen", held.play(), 15);
        Check.due("none is held", held.count(0), 0);
    }
}
