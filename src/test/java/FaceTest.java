import java.lang.reflect.Constructor;
import java.lang.reflect.Field;
import java.lang.reflect.Method;
import java.lang.reflect.Modifier;
import java.util.Set;
import java.util.TreeSet;

/** The public face: the constants, the constructor and the methods of the document, and no more. */
public final class FaceTest {
    private static final Set<String> METHODS = Set.of("hold 5", "free 2", "move 4", "slope 5", "loose 2", "spread 1",
        "cornerOf 3", "point 4", "patchOf 2", "count 1", "agrees 2", "crease 4", "level 4", "nearest 3", "calm 0",
        "keep 0", "restore 0", "undo 0", "type 1", "clearText 0", "fault 1", "play 0");

    public static void main(String[] args) {
        Check.begin("the face");
        Check.due("INVALID_ARGUMENT", ColourPatches.INVALID_ARGUMENT, Check.INVALID);
        Check.due("NOT_POSSIBLE", ColourPatches.NOT_POSSIBLE, Check.NOT_POSSIBLE);
        Check.due("LIMIT_REACHED", ColourPatches.LIMIT_REACHED, Check.LIMIT);
        Check.due("NOT_FOUND", ColourPatches.NOT_FOUND, Check.NOT_FOUND);
        Class<?> face = ColourPatches.class;
        Check.due("the class", face.getModifiers(), Modifier.PUBLIC | Modifier.FINAL);
        constructors(face);
        methods(face);
        fields(face);
        for (Class<?> inside : face.getDeclaredClasses()) {
            Check.that(inside.getName() + " is static", Modifier.isStatic(inside.getModifiers()));
            Check.that(inside.getName() + " is private or package-visible",
                    !Modifier.isPublic(inside.getModifiers()) && !Modifier.isProtected(inside.getModifiers()));
            fieldsOfObjects(inside);
        }
        fieldsOfObjects(face);
        Check.that("some twelve classes", face.getDeclaredClasses().length <= 14);
        Check.end();
    }

    private static void fieldsOfObjects(Class<?> any) {
        int fields = 0;
        for (Field field : any.getDeclaredFields()) {
            fields += Modifier.isStatic(field.getModifiers()) ? 0 : 1;
        }
        Check.that(any.getName() + " has some twenty fields", fields <= 24);
    }

    private static void constructors(Class<?> face) {
        Constructor<?>[] all = face.getDeclaredConstructors();
        Check.due("constructors", all.length, 1);
        Check.due("its parameters", all[0].getParameterCount(), 0);
        Check.that("it is public", Modifier.isPublic(all[0].getModifiers()));
    }

    private static void methods(Class<?> face) {
        Set<String> there = new TreeSet<>();
        for (Method method : face.getDeclaredMethods()) {
            if (Modifier.isPrivate(method.getModifiers())) {
                for (String promised : METHODS) {
                    Check.that(method + " bears a public name", !promised.startsWith(method.getName() + " "));
                }
            } else if (!method.isSynthetic()) {
                there.add(method.getName() + " " + method.getParameterCount());
                Check.due(method + " is public", method.getModifiers(), Modifier.PUBLIC);
                Check.that(method + " answers int", method.getReturnType() == int.class);
            }
        }
        Check.that("the methods are " + there, there.equals(new TreeSet<>(METHODS)));
    }

    private static void fields(Class<?> face) {
        int constants = 0;
        for (Field field : face.getDeclaredFields()) {
            int modifiers = field.getModifiers();
            if (field.isSynthetic()) {
                continue;
            }
            if (Modifier.isPublic(modifiers)) {
                constants++;
                Check.that(field + " is a constant", Modifier.isStatic(modifiers) && Modifier.isFinal(modifiers));
            } else {
                Check.that(field + " is private", Modifier.isPrivate(modifiers));
            }
            Check.that(field + " is no static state", !Modifier.isStatic(modifiers) || Modifier.isFinal(modifiers));
        }
        Check.due("public constants", constants, 4);
    }
}
