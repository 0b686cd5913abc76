import java.util.Objects;
import java.util.concurrent.Callable;

/** What the project's tests share: they count and print each answer that is not due, and end with 1 for any. */
final class Check {
    private static int checked = 0;
    private static int wrong = 0;

    private Check() {
    }

    static void same(String what, Object got, Object due) {
        checked++;
        if (!Objects.equals(got, due)) {
            wrong++;
            System.out.println(what + " answered " + got + ", due is " + due);
        }
    }

    /** The call throws just this exception (not one of a class below it) and changes nothing that can be asked. */
    static void refuses(String what, ShadowWall wall, Class<? extends RuntimeException> due, Callable<?> call) {
        String before = Picture.of(wall);
        throwsJust(what, due, call);
        same(what + ": the state after it", Picture.of(wall), before);
    }

    static void throwsJust(String what, Class<? extends RuntimeException> due, Callable<?> call) {
        checked++;
        String got;
        try {
            got = "answered " + call.call();
        } catch (Exception thrown) {
            if (thrown.getClass() == due) {
                return;
            }
            got = "threw " + thrown;
        }
        wrong++;
        System.out.println(what + " " + got + ", due is " + due.getSimpleName());
    }

    /** To be called last in a main method. */
    static void end() {
        System.out.println(checked + " answers checked, " + wrong + " wrong");
        if (wrong != 0) {
            System.exit(1);
        }
    }
}
