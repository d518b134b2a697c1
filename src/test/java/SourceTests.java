import java.io.IOException;
import java.lang.reflect.Constructor;
import java.lang.reflect.Field;
import java.lang.reflect.Method;
import java.lang.reflect.Modifier;
import java.nio.file.Files;
import java.nio.file.Path;
import java.util.Arrays;
import java.util.Set;
import java.util.TreeSet;
import java.util.regex.Matcher;
import java.util.regex.Pattern;

/** The face of the class, and those rules of LANGUAGE.md that a look at the source can tell. */
final class SourceTests {
    private static final String[] FACE = {
        "int definePiece(int,int,int,int,int,int)", "int removePiece(int)",
        "int pieceWidth(int,int)", "int pieceLength(int,int)",
        "int addSeam(int,int,int,int,int)", "int seamCount()", "int seamDifference(int,int)",
        "int matchingSeams()", "int firstMismatch()", "int setRatio(int,int)", "int ratio(int)",
        "int setClothWidth(int)", "boolean setFolded(boolean)", "boolean setRotation(boolean)",
        "int setPacking(int,int)", "int partCount()", "int foldPartCount()", "int partSize(int)",
        "int partPiece(int)", "int partAlong(int)", "int partAcross(int)",
        "int partAlongExtent(int)", "int partAcrossExtent(int)", "int markerLength()",
        "int wastedArea()", "int markerLengthWith(int,int)", "int bestLength()",
        "int bestPacking()", "int setOrdered(int,int)", "int plies()", "int clothLength()",
        "int surplus()", "int goodMixes()", "int bestMix()", "int bestMixCloth()",
        "int applyBestMix()", "int save(int)", "int restore(int)"};
    private static final String FORBIDDEN = "\\b(throw|throws|try|catch|synchronized|assert|native"
            + "|volatile|transient|import|package|Object|System\\.(?!arraycopy)|Thread|float|double"
            + "|equals|hashCode|toString)\\b|->|::|@|[^\\x00-\\x7f]";

    private SourceTests() {
    }

    static void runAll(Tests tests, Path source) throws IOException {
        String text = Files.readString(source);
        String code = text.replaceAll("(?s)/\\*.*?\\*/", "").replaceAll("//[^\n]*", "");
        tests.run("rule 1: the face", SourceTests::face);
        tests.run("rule 1: no private method has a public one's name", SourceTests::names);
        tests.run("rules 4 and 6: words that are ruled out", t -> words(t, code));
        tests.run("rule 5: no static state", SourceTests::staticFields);
        tests.run("rule 11: sizes", t -> sizes(t, code));
        tests.run("rule 12: objects are made in constructors alone", t -> makings(t, code));
    }

    private static void face(Tests t) {
        Set<String> found = new TreeSet<>();
        for (Method method : GarmentMarker.class.getDeclaredMethods()) {
            if (Modifier.isPublic(method.getModifiers())) {
                String arguments = Arrays.toString(Arrays.stream(method.getParameterTypes())
                        .map(Class::getName).toArray());
                found.add(method.getReturnType() + " " + method.getName() + "("
                        + arguments.substring(1, arguments.length() - 1).replace(" ", "") + ")");
            } else if (!Modifier.isPrivate(method.getModifiers())) {
                t.fail(method + " is neither public nor private");
            }
        }
        if (!found.equals(new TreeSet<>(Arrays.asList(FACE)))) {
            t.fail("the public methods are " + found);
        }
        Constructor<?>[] constructors = GarmentMarker.class.getDeclaredConstructors();
        t.due("constructors", constructors.length, 1);
        t.due("a public constructor", Modifier.isPublic(constructors[0].getModifiers()), true);
        t.due("public and final", GarmentMarker.class.getModifiers(),
                Modifier.PUBLIC | Modifier.FINAL);
        int constants = 0;
        for (Field field : GarmentMarker.class.getDeclaredFields()) {
            if (Modifier.isPublic(field.getModifiers())) {
                constants++;
            } else if (!Modifier.isPrivate(field.getModifiers())) {
                t.fail(field + " is neither public nor private");
            }
        }
        t.due("public constants", constants, 19);
    }

    private static void names(Tests t) {
        Set<String> open = new TreeSet<>();
        for (Method method : GarmentMarker.class.getMethods()) {
            open.add(method.getName());
        }
        for (Method method : GarmentMarker.class.getDeclaredMethods()) {
            if (!Modifier.isPublic(method.getModifiers()) && open.contains(method.getName())) {
                t.fail(method.getName() + " is private and public");
            }
        }
        for (Class<?> inside : GarmentMarker.class.getDeclaredClasses()) {
            t.due(inside + " is static", Modifier.isStatic(inside.getModifiers()), true);
            for (Method method : inside.getDeclaredMethods()) {
                if (open.contains(method.getName())) {
                    t.fail(inside + " has a method " + method.getName());
                }
            }
        }
    }

    private static void words(Tests t, String code) {
        Matcher matcher = Pattern.compile(FORBIDDEN).matcher(code);
        while (matcher.find()) {
            t.fail("the source has " + matcher.group());
        }
    }

    private static void staticFields(Tests t) {
        fieldsOf(t, GarmentMarker.class);
        for (Class<?> inside : GarmentMarker.class.getDeclaredClasses()) {
            fieldsOf(t, inside);
        }
    }

    private static void fieldsOf(Tests t, Class<?> type) {
        int own = 0;
        for (Field field : type.getDeclaredFields()) {
            if (!Modifier.isStatic(field.getModifiers())) {
                own++;
            } else if (!Modifier.isFinal(field.getModifiers()) || field.getType() != int.class) {
                t.fail(field + " is static state");
            }
        }
        t.due(type + " has at most 20 fields", own <= 20, true);
    }

    private static void sizes(Tests t, String code) {
        t.due("at most 12 classes", GarmentMarker.class.getDeclaredClasses().length < 12, true);
        for (Method method : GarmentMarker.class.getDeclaredMethods()) {
            t.due(method + " has at most 7 parameters", method.getParameterCount() <= 7, true);
        }
        Matcher matcher = Pattern.compile("(?m)^( {4}| {8})([\\w\\[\\]]+ )+(\\w+)\\([^;]*?\\) \\{$"
                + "(?s:.*?)^\\1\\}$").matcher(code);
        int methods = 0;
        while (matcher.find()) {
            methods++;
            long lines = matcher.group().lines().count();
            t.due(matcher.group(3) + " has at most 60 lines", lines <= 60, true);
        }
        t.due("methods seen", methods >= FACE.length, true);
    }

    /** So no call makes an object, and a run's room does not grow with its calls. */
    private static void makings(Tests t, String code) {
        String rest = code;
        for (String name : new String[] {"GarmentMarker", "State", "Marker"}) {
            String constructor = "(?m)^( {4}public | {8})" + name + "\\(\\) \\{$(?s:.*?)^ +\\}$";
            Matcher indent = Pattern.compile("(?m)^( {4}|( {8}))(public )?" + name
                    + "\\(\\) \\{\n(?s:.*?)\n\\1\\}$").matcher(rest);
            t.due("a constructor " + name, indent.find(), true);
            rest = indent.replaceFirst("");
            t.due("one constructor " + name, Pattern.compile(constructor).matcher(rest).find(),
                    false);
        }
        t.due("new outside the constructors", rest.contains("new "), false);
        t.due("clone outside the constructors", rest.contains("clone"), false);
    }
}
