import java.lang.reflect.Constructor;
import java.lang.reflect.Field;
import java.lang.reflect.Method;
import java.lang.reflect.Modifier;
import java.util.Arrays;
import java.util.Set;
import java.util.TreeSet;
import java.util.stream.Collectors;

/** The class has the face of the document, and no other member that can be reached from outside. */
public final class FaceTest {
    private static final String INDEX = "IndexOutOfBoundsException";
    private static final String ARGUMENT = "IllegalArgumentException";
    private static final String STATE = "IllegalStateException";
    private static final String ELEMENT = "NoSuchElementException";
    private static final String OPERATION = "UnsupportedOperationException";

    public static void main(String[] arguments) {
        Set<String> due = new TreeSet<>(Arrays.asList(
                "int addLayer(char) " + ARGUMENT + " " + STATE,
                "int removeLayer(int) " + INDEX,
                "int paint(int int int int int int) " + INDEX + " " + ARGUMENT,
                "int erase(int int int int) " + INDEX + " " + ARGUMENT,
                "int hide(int) " + INDEX + " " + STATE,
                "int show(int) " + INDEX + " " + STATE,
                "int moveLayer(int int) " + INDEX,
                "int mergeDown(int) " + INDEX + " " + ELEMENT + " " + OPERATION,
                "int castShadow(int int) " + INDEX + " " + ARGUMENT + " " + STATE,
                "int layerCount()",
                "char mode(int) " + INDEX,
                "boolean isVisible(int) " + INDEX,
                "boolean hasTone(int int int) " + INDEX,
                "int tone(int int int) " + INDEX + " " + ELEMENT,
                "int painted(int) " + INDEX,
                "int visibleCount()",
                "int seen(int int) " + INDEX,
                "int seenFromTop(int int) " + INDEX,
                "int topLayer(int int) " + INDEX + " " + ELEMENT,
                "int coveringLayers(int int) " + INDEX,
                "int cellsWithTone(int) " + ARGUMENT,
                "int commonestTone()",
                "int sumOfTones(int int int int) " + INDEX + " " + ARGUMENT,
                "int sumOfTonesByTable(int int int int) " + INDEX + " " + ARGUMENT,
                "int areaSize(int int) " + INDEX,
                "int areaCount()",
                "int areaCountByJoining()",
                "int largestArea()",
                "int darkestRow()",
                "boolean isMirrored()",
                "int differentCells(int int) " + INDEX,
                "int layerByPaint(int) " + ELEMENT,
                "int paintedCells()",
                "int erasedCells()",
                "double meanTone()",
                "float coveredShare()",
                "boolean isConsistent()",
                "int feed(char) " + STATE,
                "int runCommands() " + ARGUMENT + " " + OPERATION,
                "int errorPosition() " + ELEMENT,
                "int failedCommand() " + ELEMENT,
                "int writeRow(int) " + INDEX,
                "int writeLayers()",
                "char outputChar(int) " + INDEX,
                "int undoCount()",
                "int undo() " + STATE,
                "int save()",
                "int restore() " + STATE));
        Check.same("the methods", methods(), due);
        Check.same("public and final", Modifier.toString(ShadowWall.class.getModifiers()), "public final");
        Check.same("the constructors", constructors(), Set.of("public ShadowWall()"));
        Check.same("the fields that are not private", reachableFields(), Set.of());
        Check.end();
    }

    private static Set<String> methods() {
        Set<String> found = new TreeSet<>();
        for (Method method : ShadowWall.class.getDeclaredMethods()) {
            if (Modifier.isPrivate(method.getModifiers()) || method.isSynthetic()) {
                continue;
            }
            String kind = Modifier.isPublic(method.getModifiers()) ? "" : "not public: ";
            found.add((kind + method.getReturnType().getSimpleName() + " " + method.getName()
                    + "(" + names(method.getParameterTypes()) + ") " + names(method.getExceptionTypes())).trim());
        }
        return found;
    }

    private static String names(Class<?>[] types) {
        return Arrays.stream(types).map(Class::getSimpleName).collect(Collectors.joining(" "));
    }

    private static Set<String> constructors() {
        Set<String> found = new TreeSet<>();
        for (Constructor<?> constructor : ShadowWall.class.getDeclaredConstructors()) {
            found.add(constructor.toString());
        }
        return found;
    }

    private static Set<String> reachableFields() {
        Set<String> found = new TreeSet<>();
        for (Field field : ShadowWall.class.getDeclaredFields()) {
            if (!Modifier.isPrivate(field.getModifiers()) && !field.isSynthetic()) {
                found.add(field.getName());
            }
        }
        return found;
    }
}
