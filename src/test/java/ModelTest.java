import java.lang.reflect.InvocationTargetException;
import java.lang.reflect.Method;
import java.lang.reflect.Modifier;
import java.util.Arrays;
import java.util.List;
import java.util.Map;
import java.util.TreeMap;

/** Long runs of calls with all kinds of arguments, each answer compared with the model's. */
public final class ModelTest {
    private static final int RUNS = 300;
    private static final int CALLS = 512;
    private static final List<String> CHANGES = List.of("addLayer", "removeLayer", "paint", "erase", "hide", "show",
            "moveLayer", "mergeDown", "castShadow");
    /** Those that are called more often, for runs in which much happens. */
    private static final List<String> FREQUENT = List.of("addLayer", "addLayer", "addLayer", "paint", "paint", "paint",
            "paint", "paint", "erase", "moveLayer", "castShadow", "show", "undo", "mergeDown");

    private final Map<String, Method> methods = new TreeMap<>();
    private final String[] names;
    /** A linear congruential generator: the same runs each time. */
    private long seed = 20261119;
    private int wrongRuns = 0;

    private ModelTest() {
        for (Method method : ShadowWall.class.getDeclaredMethods()) {
            if (Modifier.isPublic(method.getModifiers())) {
                methods.put(method.getName(), method);
            }
        }
        names = methods.keySet().toArray(new String[0]);
    }

    public static void main(String[] arguments) throws IllegalAccessException {
        ModelTest test = new ModelTest();
        for (int run = 0; run < RUNS && test.wrongRuns < 5; run++) {
            test.oneRun(run);
        }
        Check.same("runs with a wrong answer", test.wrongRuns, 0);
        Check.end();
    }

    private int below(int bound) {
        seed = seed * 6364136223846793005L + 1442695040888963407L;
        return (int) ((seed >>> 33) % bound);
    }

    private void oneRun(int run) throws IllegalAccessException {
        ShadowWall wall = new ShadowWall();
        Model model = new Model();
        StringBuilder calls = new StringBuilder();
        for (int call = 0; call < CALLS; call++) {
            if (below(12) == 0 && call < CALLS - 61) {
                String text = text();
                calls.append(" \"").append(text).append("\"");
                for (char character : text.toCharArray()) {
                    compare(wall, model, "feed", character);
                    call++;
                }
                if (below(20) > 0 && !compare(wall, model, "runCommands")) {
                    report(run, calls.append(" runCommands"));
                    return;
                }
                continue;
            }
            String name = below(5) < 2 ? FREQUENT.get(below(FREQUENT.size())) : names[below(names.length)];
            int[] arguments = arguments(name);
            calls.append(' ').append(name).append(Arrays.toString(arguments));
            if (!compare(wall, model, name, arguments)) {
                report(run, calls);
                return;
            }
        }
    }

    private void report(int run, StringBuilder calls) {
        wrongRuns++;
        System.out.println("in run " + run + ", after" + calls);
    }

    private int[] arguments(String name) {
        int[] arguments = new int[methods.get(name).getParameterCount()];
        for (int i = 0; i < arguments.length; i++) {
            arguments[i] = below(name.equals("castShadow") ? 20 : 8);
        }
        if (name.equals("addLayer")) {
            arguments[0] = "nnnmsdlax".charAt(below(9));
        } else if (name.equals("feed")) {
            arguments[0] = "layer n;".charAt(below(8));
        } else if (name.equals("paint")) {
            paintArguments(arguments);
        } else if (name.startsWith("sumOf")) {
            rectangle(arguments, 0);
        } else if (name.equals("castShadow")) {
            arguments[0] = below(6);
        } else if (name.equals("cellsWithTone") || name.equals("outputChar")) {
            arguments[0] = below(18) - 1;
        }
        if (arguments.length > 0 && !name.equals("addLayer") && below(40) == 0) {
            int[] extremes = {-1, 6, 8, 16, Integer.MIN_VALUE, Integer.MAX_VALUE};
            arguments[below(arguments.length)] = extremes[below(6)];
        }
        return arguments;
    }

    private void paintArguments(int[] arguments) {
        arguments[0] = below(below(3) + 4);
        rectangle(arguments, 1);
        arguments[5] = below(below(4) == 0 ? 17 : 4);
    }

    private void rectangle(int[] arguments, int first) {
        arguments[first] = below(8);
        arguments[first + 1] = below(6);
        arguments[first + 2] = below(10) == 0 ? below(8) : arguments[first] + below(8 - arguments[first]);
        arguments[first + 3] = below(10) == 0 ? below(6) : arguments[first + 1] + below(6 - arguments[first + 1]);
    }

    /** A text of commands, most of them such that they can be carried out; sometimes with a wrong character. */
    private String text() {
        StringBuilder text = new StringBuilder();
        int commands = 1 + below(4);
        for (int i = 0; i < commands; i++) {
            text.append(i == 0 ? "" : ";").append(command());
        }
        if (below(4) == 0) {
            text.setCharAt(below(text.length()), "layer paint;mvog0123 #*+\u0130".charAt(below(25)));
        }
        if (below(8) == 0) {
            text.setLength(below(text.length() + 1));
        }
        if (below(8) == 0) {
            text.insert(below(text.length() + 1), below(2) == 0 ? "0" : ";");
        }
        return text.length() > 60 ? text.substring(0, 60) : text.toString();
    }

    private String command() {
        int layer = below(4);
        switch (below(8)) {
            case 0:
                return "layer " + "nnmsdla".charAt(below(7));
            case 1:
                return "paint " + layer + " " + below(4) + below(4) + (3 + below(5)) + (3 + below(3)) + " " + below(17);
            case 2:
                return "erase " + layer + " " + below(8) + below(6) + " " + below(10);
            case 3:
                return "hide " + layer;
            case 4:
                return "show " + layer;
            case 5:
                return "merge " + layer;
            case 6:
                return "move " + layer + " " + below(4);
            default:
                return "cast " + layer + " " + (5 + below(15));
        }
    }

    private boolean compare(ShadowWall wall, Model model, String name, int... arguments) throws IllegalAccessException {
        String due;
        try {
            due = String.valueOf(CHANGES.contains(name) ? model.recorded(name, arguments)
                    : model.asked(name, arguments));
        } catch (RuntimeException thrown) {
            due = "throws." + thrown.getClass().getSimpleName();
        }
        String got = answer(wall, name, arguments);
        Check.same(name + Arrays.toString(arguments), got, due);
        return got.equals(due);
    }

    private String answer(ShadowWall wall, String name, int[] arguments) throws IllegalAccessException {
        Method method = methods.get(name);
        Object[] given = new Object[arguments.length];
        for (int i = 0; i < given.length; i++) {
            if (method.getParameterTypes()[i] == char.class) {
                given[i] = (char) arguments[i];
            } else {
                given[i] = arguments[i];
            }
        }
        try {
            return String.valueOf(method.invoke(wall, given));
        } catch (InvocationTargetException thrown) {
            return "throws." + thrown.getCause().getClass().getSimpleName();
        }
    }
}
