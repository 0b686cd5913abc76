import java.io.IOException;
import java.lang.reflect.Method;
import java.lang.reflect.Modifier;
import java.nio.file.Files;
import java.nio.file.Path;

/** What README.md says: its examples answer what stands beside them, and it names every method. */
public final class ReadmeTest {
    public static void main(String[] arguments) throws IOException {
        examples();
        examplesOfCommands();
        namesEveryMethod();
        Check.end();
    }

    private static void examples() {
        ShadowWall wall = new ShadowWall();
        int layer = wall.addLayer('n');
        Check.same("addLayer", layer, 0);
        Check.same("paint", wall.paint(layer, 1, 1, 4, 3, 9), 12);
        wall.castShadow(layer, 14);
        Check.same("the shadow's mode", wall.mode(1), 'm');
        Check.same("the shadow of (1, 1)", wall.hasTone(1, 3, 2), true);
        Check.same("seen", wall.seen(3, 2), 4);
        wall.undo();
        Check.same("layers after undo", wall.layerCount(), 1);
        exampleOfText(wall);
    }

    private static void exampleOfText(ShadowWall wall) {
        int before = wall.undoCount();
        Check.same("runCommands", Walls.run(wall, "hide 0;paint 0 0070 15;show 0"), 3);
        Check.same("one call for undo", wall.undoCount(), before + 1);
        Check.same("writeRow", wall.writeRow(0), 8);
        Check.same("the row", output(wall, 8), "ffffffff");
        Check.same("writeLayers", wall.writeLayers(), 3);
        Check.same("the layers", output(wall, 3), "n20");
        Check.same("outputChar", wall.outputChar(0), 'n');
    }

    /** The examples in the table of commands, each on a new wall with three layers, where all of them succeed. */
    private static void examplesOfCommands() {
        String[] examples = {"layer m", "paint 0 1143 9", "erase 0 22 1", "merge 1", "move 0 2", "cast 0 14"};
        for (String example : examples) {
            Check.same("runCommands of \"" + example + "\"", Walls.run(Walls.with("nnn"), example), 1);
        }
    }

    private static void namesEveryMethod() throws IOException {
        String page = Files.readString(Path.of("README.md"));
        for (Method method : ShadowWall.class.getDeclaredMethods()) {
            if (Modifier.isPublic(method.getModifiers())) {
                String name = "`" + method.getName() + "`";
                Check.same("README.md names " + name, page.contains(name), true);
            }
        }
    }

    private static String output(ShadowWall wall, int length) {
        StringBuilder text = new StringBuilder();
        for (int index = 0; index < length; index++) {
            text.append(wall.outputChar(index));
        }
        return text.toString();
    }
}
