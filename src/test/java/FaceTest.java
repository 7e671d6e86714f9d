import java.lang.reflect.Constructor;
import java.lang.reflect.Field;
import java.lang.reflect.Method;
import java.lang.reflect.Modifier;
import java.util.Arrays;
import java.util.TreeSet;

/** The public face: just the constants, the constructor and the methods that the document names. */
public final class FaceTest {
    private static final String[] METHODS = {
        "setSize 2", "setCell 2", "cell 1", "appendCharacter 1", "clearText 0", "draw 0", "digest 3",
        "addKey 0", "addDelta 1", "addChosen 0", "removeLast 0", "recode 0", "setLimits 3",
        "setLost 2", "frame 2", "code 3", "run 4", "pixel 2", "count 1", "costWith 1",
        "difference 2", "findBlock 2", "falseMatches 1", "greatestSeek 0", "dependents 1", "patch 1",
        "planCost 0", "planKeys 0", "undo 0"};
    private static final String[] CONSTANTS = {
        "INVALID_ARGUMENT", "ILLEGAL_STATE", "CAPACITY_EXCEEDED", "NONE"};

    public static void main(String[] args) {
        Checker checker = new Checker("FaceTest");
        checker.due("INVALID_ARGUMENT", FrameDeltas.INVALID_ARGUMENT, -1);
        checker.due("ILLEGAL_STATE", FrameDeltas.ILLEGAL_STATE, -2);
        checker.due("CAPACITY_EXCEEDED", FrameDeltas.CAPACITY_EXCEEDED, -3);
        checker.due("NONE", FrameDeltas.NONE, -9);
        checker.holds("the class is public and final",
                Modifier.isPublic(FrameDeltas.class.getModifiers())
                        && Modifier.isFinal(FrameDeltas.class.getModifiers()));
        methods(checker);
        others(checker);
        checker.finish();
    }

    private static void methods(Checker checker) {
        TreeSet<String> wanted = new TreeSet<>(Arrays.asList(METHODS));
        TreeSet<String> found = new TreeSet<>();
        for (Method method : FrameDeltas.class.getDeclaredMethods()) {
            if (Modifier.isPrivate(method.getModifiers())) {
                continue;
            }
            found.add(method.getName() + " " + method.getParameterCount());
            checker.holds(method + " is public and answers an int",
                    Modifier.isPublic(method.getModifiers()) && method.getReturnType() == int.class);
            for (Class<?> type : method.getParameterTypes()) {
                checker.holds(method + " takes ints", type == int.class);
            }
        }
        checker.holds("the methods " + found, wanted.equals(found));
    }

    private static void others(Checker checker) {
        TreeSet<String> fields = new TreeSet<>();
        for (Field field : FrameDeltas.class.getDeclaredFields()) {
            if (!Modifier.isPrivate(field.getModifiers())) {
                fields.add(field.getName());
            }
        }
        checker.holds("the constants " + fields, fields.equals(new TreeSet<>(Arrays.asList(CONSTANTS))));
        Constructor<?>[] constructors = FrameDeltas.class.getDeclaredConstructors();
        checker.due("constructors", constructors.length, 1);
        checker.holds("the constructor is public and takes nothing",
                Modifier.isPublic(constructors[0].getModifiers())
                        && constructors[0].getParameterCount() == 0);
        for (Class<?> inner : FrameDeltas.class.getDeclaredClasses()) {
            checker.holds(inner + " is static and not public",
                    Modifier.isStatic(inner.getModifiers()) && !Modifier.isPublic(inner.getModifiers())
                            && !Modifier.isProtected(inner.getModifiers()));
        }
    }
}
