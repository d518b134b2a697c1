import java.lang.reflect.Constructor;
import java.lang.reflect.Field;
import java.lang.reflect.Method;
import java.lang.reflect.Modifier;
import java.util.ArrayList;
import java.util.Arrays;
import java.util.List;
import java.util.Set;
import java.util.TreeSet;

/** The face of the class, and those rules of LANGUAGE.md that its fields and methods can tell. */
final class FaceTests {
    private static final String[] FACE = {
        "int definePiece(int,int,int,int,int,int)", "int removePiece(int)",
        "int pieceWidth(int,int)", "int pieceLength(int,int)",
        "int addSeam(int,int,int,int,int)", "int seamCount()", "int seamDifference(int,int)",
        "int matchingSeams()", "int firstMismatch()", "int setRatio(int,int)", "int ratio(int)",
        "int setClothWidth(int)", "boolean setFolded(boolean)", "boolean setRotation(boolean)",
        "int setPacking(int,int)", "int partCount()", "int foldPartCount()", "int partSize(int)",
        "int partPiece(int)", "int partAlong(int)", "int partAcross(int)",
        "int partAlongExtent(int)", "int partAcrossExtent(int)", "int markerLength()",
        "int wastedArea()", "int markerLengthWith(int,int)", "int bestLength()",
        "int bestPacking()", "int setOrdered(int,int)", "int plies()", "int clothLength()",
        "int surplus()", "int goodMixes()", "int bestMix()", "int bestMixCloth()",
        "int applyBestMix()", "int save(int)", "int restore(int)"};
    private static final String[] CONSTANTS = {"NO_SUCH_PIECE", "NO_SUCH_SIZE", "NO_SUCH_SEAM",
        "NO_SUCH_PART", "OUT_OF_RANGE", "TOO_MANY_SEAMS", "NO_LAYOUT", "NO_PLIES", "NO_GOOD_MIX",
        "NONE", "NOT_SAVED", "WIDTH_SIDE", "LENGTH_SIDE", "SHELVES", "FIRST_FREE", "BY_INDEX",
        "BY_ALONG", "BY_ACROSS", "BY_AREA"};
    private static final int MOST_FIELDS = 20;

    private FaceTests() {
    }

    static void runAll(Tests tests) {
        tests.run("rule 1: the face", FaceTests::face);
        tests.run("rule 1: the constants", FaceTests::constants);
        tests.run("rule 1: no private method has a public one's name", FaceTests::names);
        tests.run("rule 5: no static state", FaceTests::staticFields);
        tests.run("rule 11: at most some twenty fields", FaceTests::fields);
    }

    private static void face(Tests t) {
        Set<String> found = new TreeSet<>();
        for (Method method : GarmentMarker.class.getDeclaredMethods()) {
            if (Modifier.isPublic(method.getModifiers())) {
                String arguments = Arrays.toString(Arrays.stream(method.getParameterTypes())
                        .map(Class::getName).toArray());
                found.add(method.getReturnType() + " " + method.getName() + "("
                        + arguments.substring(1, arguments.length() - 1).replace(" ", "") + ")");
            } else if (!Modifier.isPrivate(method.getModifiers())) {
                t.fail(method + " is neither public nor private");
            }
        }
        if (!found.equals(new TreeSet<>(Arrays.asList(FACE)))) {
            t.fail("the public methods are " + found);
        }
        Constructor<?>[] constructors = GarmentMarker.class.getDeclaredConstructors();
        t.due("constructors", constructors.length, 1);
        t.due("a public constructor", Modifier.isPublic(constructors[0].getModifiers()), true);
        t.due("public and final", GarmentMarker.class.getModifiers(),
                Modifier.PUBLIC | Modifier.FINAL);
    }

    private static void constants(Tests t) {
        Set<String> found = new TreeSet<>();
        for (Field field : GarmentMarker.class.getDeclaredFields()) {
            if (Modifier.isPublic(field.getModifiers())) {
                found.add(field.getName());
                t.due(field + " is a constant", field.toString().startsWith(
                        "public static final int GarmentMarker."), true);
            } else if (!Modifier.isPrivate(field.getModifiers())) {
                t.fail(field + " is neither public nor private");
            }
        }
        if (!found.equals(new TreeSet<>(Arrays.asList(CONSTANTS)))) {
            t.fail("the public constants are " + found);
        }
    }

    private static void names(Tests t) {
        Set<String> open = new TreeSet<>();
        for (Method method : GarmentMarker.class.getMethods()) {
            open.add(method.getName());
        }
        for (Method method : GarmentMarker.class.getDeclaredMethods()) {
            if (!Modifier.isPublic(method.getModifiers()) && open.contains(method.getName())) {
                t.fail(method.getName() + " is private and public");
            }
        }
        for (Class<?> inside : GarmentMarker.class.getDeclaredClasses()) {
            t.due(inside + " is static", Modifier.isStatic(inside.getModifiers()), true);
            for (Method method : inside.getDeclaredMethods()) {
                if (open.contains(method.getName())) {
                    t.fail(inside + " has a method " + method.getName());
                }
            }
        }
    }

    private static void staticFields(Tests t) {
        for (Class<?> type : classes()) {
            for (Field field : type.getDeclaredFields()) {
                int modifiers = field.getModifiers();
                if (Modifier.isStatic(modifiers)
                        && (!Modifier.isFinal(modifiers) || field.getType() != int.class)) {
                    t.fail(field + " is static state");
                }
            }
        }
    }

    private static void fields(Tests t) {
        for (Class<?> type : classes()) {
            int own = 0;
            for (Field field : type.getDeclaredFields()) {
                if (!Modifier.isStatic(field.getModifiers())) {
                    own++;
                }
            }
            t.due(type + " has at most 20 fields", own <= MOST_FIELDS, true);
        }
    }

    private static List<Class<?>> classes() {
        List<Class<?>> all = new ArrayList<>();
        all.add(GarmentMarker.class);
        all.addAll(List.of(GarmentMarker.class.getDeclaredClasses()));
        return all;
    }
}
