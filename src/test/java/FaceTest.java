import java.io.IOException;
import java.lang.reflect.Constructor;
import java.lang.reflect.Field;
import java.lang.reflect.Method;
import java.lang.reflect.Modifier;
import java.nio.charset.StandardCharsets;
import java.nio.file.Files;
import java.nio.file.Path;
import java.util.ArrayList;
import java.util.Collections;
import java.util.List;
import java.util.Set;
import java.util.TreeSet;
import java.util.regex.Matcher;
import java.util.regex.Pattern;

/**
 * The public face: the constants, the constructor and the methods of the document, and no more; what
 * the interface says ahead of the calls. Runs in the project's directory.
 */
public final class FaceTest {
    private static final Class<?> FACE = ColourPatches.class;
    private static final Set<String> METHODS = Set.of("hold 5", "free 2", "move 4", "slope 5", "loose 2", "spread 1",
        "cornerOf 3", "point 4", "patchOf 2", "count 1", "agrees 2", "crease 4", "level 4", "nearest 3", "calm 0",
        "keep 0", "restore 0", "undo 0", "type 1", "clearText 0", "fault 1", "play 0");

    public static void main(String[] args) throws IllegalAccessException {
        Cases.run(FaceTest.class, args);
    }

    static void promise01To23TheClassIsPublicAndFinal() {
        Check.due("the class", FACE.getModifiers(), Modifier.PUBLIC | Modifier.FINAL);
        Check.that("it has no package", FACE.getPackageName().isEmpty());
        Check.that("it is made of no other class", FACE.getSuperclass() == Object.class);
    }

    static void promise01To23TheErrorCodes() {
        Check.due("INVALID_ARGUMENT", ColourPatches.INVALID_ARGUMENT, -1001);
        Check.due("NOT_POSSIBLE", ColourPatches.NOT_POSSIBLE, -1002);
        Check.due("LIMIT_REACHED", ColourPatches.LIMIT_REACHED, -1003);
        Check.due("NOT_FOUND", ColourPatches.NOT_FOUND, -1004);
    }

    static void promise01TheConstructorIsPublicAndTakesNothing() {
        Constructor<?>[] all = FACE.getDeclaredConstructors();
        Check.due("constructors", all.length, 1);
        Check.due("its parameters", all[0].getParameterCount(), 0);
        Check.that("it is public", Modifier.isPublic(all[0].getModifiers()));
        Check.due("what it throws", all[0].getExceptionTypes().length, 0);
    }

    static void promise02To23TheCallsAreThoseOfTheDocument() {
        Set<String> there = new TreeSet<>();
        for (Method method : FACE.getDeclaredMethods()) {
            if (!Modifier.isPrivate(method.getModifiers()) && !method.isSynthetic()) {
                there.add(method.getName() + " " + method.getParameterCount());
                Check.due(method + " is public", method.getModifiers(), Modifier.PUBLIC);
                Check.due("what " + method + " throws", method.getExceptionTypes().length, 0);
            }
        }
        Check.that("the methods are " + there, there.equals(new TreeSet<>(METHODS)));
    }

    /** Arguments, answers and error codes are of the type int. */
    static void promise01To23AllNumbersAreWhole() {
        for (Method method : FACE.getMethods()) {
            if (method.getDeclaringClass() == FACE) {
                Check.that(method + " answers int", method.getReturnType() == int.class);
                for (Class<?> parameter : method.getParameterTypes()) {
                    Check.that(method + " takes int", parameter == int.class);
                }
            }
        }
        for (Field field : FACE.getFields()) {
            Check.that(field + " is an int", field.getType() == int.class);
        }
    }

    static void promise01To23NoOtherFieldIsSeen() {
        int constants = 0;
        for (Field field : FACE.getDeclaredFields()) {
            int modifiers = field.getModifiers();
            if (field.isSynthetic()) {
                continue;
            }
            if (Modifier.isPublic(modifiers)) {
                constants++;
                Check.that(field + " is a constant", Modifier.isStatic(modifiers) && Modifier.isFinal(modifiers));
            } else {
                Check.that(field + " is private", Modifier.isPrivate(modifiers));
            }
            Check.that(field + " is no static state", !Modifier.isStatic(modifiers) || Modifier.isFinal(modifiers));
        }
        Check.due("public constants", constants, 4);
    }

    static void promise02To23NoPrivateMethodBearsAPublicName() {
        for (Method method : FACE.getDeclaredMethods()) {
            for (String promised : METHODS) {
                Check.that(method + " bears a public name",
                        !Modifier.isPrivate(method.getModifiers()) || !promised.startsWith(method.getName() + " "));
            }
        }
    }

    /** Rules 1 and 11 of LANGUAGE.md. */
    static void promise01To23ClassesInsideAreFewAndSmall() {
        fieldsOfObjects(FACE);
        for (Class<?> inside : FACE.getDeclaredClasses()) {
            Check.that(inside.getName() + " is static", Modifier.isStatic(inside.getModifiers()));
            Check.that(inside.getName() + " is private or package-visible",
                    !Modifier.isPublic(inside.getModifiers()) && !Modifier.isProtected(inside.getModifiers()));
            fieldsOfObjects(inside);
        }
        Check.that("twelve classes", FACE.getDeclaredClasses().length < 12);
    }

    private static void fieldsOfObjects(Class<?> any) {
        int fields = 0;
        for (Field field : any.getDeclaredFields()) {
            fields += Modifier.isStatic(field.getModifiers()) ? 0 : 1;
        }
        Check.that(any.getName() + " has twenty fields", fields <= 20);
    }

    // ---- what the interface says ahead of the calls

    static void promise02To07StandBehindCorners() throws IOException {
        standBehind("corners", "hold", "free", "move", "slope", "loose", "spread");
    }

    static void promise08To11StandBehindWhatThereIs() throws IOException {
        standBehind("what there is", "cornerOf", "point", "patchOf", "count");
    }

    static void promise12To16StandBehindEdgesLevelsPlaces() throws IOException {
        standBehind("edges, levels, places", "agrees", "crease", "level", "nearest", "calm");
    }

    static void promise17To19StandBehindSnapshotUndo() throws IOException {
        standBehind("snapshot, undo", "keep", "restore", "undo");
    }

    static void promise20To23StandBehindTexts() throws IOException {
        standBehind("texts", "type", "clearText", "fault", "play");
    }

    private static void standBehind(String heading, String... calls) throws IOException {
        String source = Files.readString(Path.of("src/main/java/ColourPatches.java"), StandardCharsets.ISO_8859_1);
        String behind = "";
        for (String section : source.split("// ---- ")) {
            behind = section.startsWith(heading + "\n") ? section : behind;
        }
        List<String> there = new ArrayList<>();
        Matcher call = Pattern.compile("\n    public int (\\w+)\\(").matcher(behind);
        while (call.find()) {
            there.add(call.group(1));
        }
        Check.same("the calls behind " + heading, String.join(" ", there), String.join(" ", calls));
        Check.due("headings " + heading, Collections.frequency(List.of(source.split("\n")), "    // ---- " + heading), 1);
    }
}
