import java.util.NoSuchElementException;

/** Promises 39 to 42: the input buffer and text commands. */
public final class CommandsTest {
    public static void main(String[] arguments) {
        promise39Feed();
        promise40EachCommand();
        promise40ManyCommands();
        promise40RunOfThemIsOneCall();
        promise40FailureKeepsTheState();
        promise40MalformedComesFirst();
        promises40And41ErrorPositions();
        promise41NoErrorPosition();
        promise42FailedCommand();
        Check.end();
    }

    private static void promise39Feed() {
        ShadowWall wall = new ShadowWall();
        for (int length = 1; length <= 60; length++) {
            Check.same("feed", wall.feed((char) (length * 1000)), length);
        }
        Check.throwsJust("feed of the 61st", IllegalStateException.class, () -> wall.feed('h'));
        Check.throwsJust("feed of the 61st again", IllegalStateException.class, () -> wall.feed('h'));
        Check.throwsJust("runCommands of other characters", IllegalArgumentException.class, wall::runCommands);
        Check.same("the input buffer is empty after it", wall.feed('h'), 1);
        Check.same("feed is not recorded", wall.undoCount(), 0);
    }

    private static void promise40EachCommand() {
        ShadowWall wall = new ShadowWall();
        for (char mode : "nmsdla".toCharArray()) {
            Check.same("layer", Walls.run(wall, "layer " + mode), 1);
            Check.same("its mode", wall.mode(wall.layerCount() - 1), mode);
        }
        wall.removeLayer(5);
        Check.same("paint", Walls.run(wall, "paint 1 2435 7"), 1);
        Check.same("what is painted", wall.painted(1) + " " + wall.tone(1, 2, 4) + wall.tone(1, 3, 5), "4 77");
        Check.same("a tone of two digits", Walls.run(wall, "paint 1 0000 15"), 1);
        Check.same("it is there", wall.tone(1, 0, 0), 15);
        Check.same("a tone with a zero before it", Walls.run(wall, "paint 1 0000 03"), 1);
        Check.same("it is there", wall.tone(1, 0, 0), 3);
        Check.same("erase", Walls.run(wall, "erase 1 24 1"), 1);
        Check.same("what is left", wall.painted(1) + " " + wall.hasTone(1, 3, 5), "2 true");
        Check.same("erasedCells", wall.erasedCells(), 3);
        Check.same("hide", Walls.run(wall, "hide 4"), 1);
        Check.same("it is hidden", wall.isVisible(4), false);
        Check.same("show", Walls.run(wall, "show 4"), 1);
        Check.same("it is visible", wall.isVisible(4), true);
        Check.same("cast", Walls.run(wall, "cast 1 9"), 1);
        Check.same("the shadow", wall.mode(5) + " " + wall.painted(5) + wall.layerCount(), "m 06");
        wall.removeLayer(5);
        Check.same("cast at an hour of two digits", Walls.run(wall, "cast 1 13"), 1);
        Check.same("the shadow", wall.painted(5) + " " + wall.tone(5, 1, 1), "1 8");
        Check.same("paintedCells", wall.paintedCells(), 4 + 1 + 1 + 1);
        Check.same("move", Walls.run(wall, "move 1 4"), 1);
        Check.same("it is moved", wall.painted(4) + " " + wall.mode(4) + wall.mode(1), "2 ms");
        ShadowWall two = new ShadowWall();
        Walls.run(two, "layer n;layer n;paint 0 0011 1;paint 1 0070 2");
        Check.same("merge", Walls.run(two, "merge 1"), 1);
        Check.same("merged", two.layerCount() + " " + two.painted(0) + " " + two.tone(0, 1, 0), "1 10 2");
    }

    private static void promise40ManyCommands() {
        ShadowWall wall = new ShadowWall();
        wall.addLayer('n');
        Check.same("8 commands", Walls.run(wall, "hide 0;show 0;hide 0;show 0;hide 0;show 0;hide 0;move 0 0"), 8);
        Check.same("after them", wall.isVisible(0), false);
        String full = "layer n;layer m;paint 1 0000 1;paint 2 0075 15;erase 2 00 0;";
        Check.same("60 characters", full.length(), 60);
        Walls.feed(wall, full.substring(0, 59));
        wall.feed('1');
        Check.throwsJust("60 characters, malformed", IllegalArgumentException.class, wall::runCommands);
        Check.same("the last one does not fit", wall.errorPosition(), 59);
        Check.same("5 commands", Walls.run(wall, full.substring(0, 59)), 5);
        Check.same("after them", wall.layerCount() + " " + wall.painted(1) + " " + wall.painted(2), "3 1 47");
        String sixty = "show 0;layer s;layer d;layer l;hide 1;show 1;paint 4 0000 12";
        Check.same("60 characters", sixty.length(), 60);
        Check.same("7 commands", Walls.run(wall, sixty), 7);
        Check.same("after them", wall.tone(4, 0, 0), 12);
    }

    private static void promise40RunOfThemIsOneCall() {
        ShadowWall wall = new ShadowWall();
        Check.same("3 commands", Walls.run(wall, "layer n;paint 0 0011 4;hide 0"), 3);
        Check.same("they are recorded as one", wall.undoCount(), 1);
        Check.same("undo", wall.undo(), 0);
        Check.same("all are undone", wall.layerCount() + " " + wall.paintedCells(), "0 0");
    }

    private static void promise40FailureKeepsTheState() {
        ShadowWall wall = new ShadowWall();
        Walls.run(wall, "layer n;layer a;paint 0 0011 4;paint 1 1122 9;hide 1");
        wall.erase(0, 0, 0, 0);
        wall.save();
        wall.writeLayers();
        String before = Picture.of(wall);
        String[] failing = {"hide 1", "show 0", "hide 3", "show 9", "merge 0", "merge 1", "merge 3", "move 0 3",
            "move 3 0", "cast 3 12", "cast 0 5", "cast 0 19", "cast 0 99", "paint 3 0000 1", "paint 0 8000 1",
            "paint 0 0600 1", "paint 0 0080 1", "paint 0 0006 1", "paint 0 1000 1", "paint 0 0100 1",
            "paint 0 0000 16", "paint 0 0000 99", "erase 3 00 1", "erase 0 80 1", "erase 0 06 1"};
        for (String command : failing) {
            Walls.runRefused(wall, "layer n;paint 2 0033 1;erase 2 00 1;" + command,
                    UnsupportedOperationException.class);
            Check.same("failed command of " + command, wall.failedCommand(), 3);
            Check.same("the state after " + command, Picture.of(wall).replace("failed 3", "failed none"), before);
            Check.same("the input buffer is empty after it", wall.feed('x'), 1);
            Check.throwsJust("an x", IllegalArgumentException.class, wall::runCommands);
            before = before.replace("error none", "error 0");
        }
        Walls.runRefused(wall, "cast 0 12;cast 0 12;cast 0 12;cast 0 12;cast 0 12",
                UnsupportedOperationException.class);
        Check.same("the seventh layer", wall.failedCommand(), 4);
        Walls.runRefused(wall, "layer n;layer n;layer n;layer n;layer n", UnsupportedOperationException.class);
        Check.same("the state after it", Picture.of(wall).replace("failed 4", "failed none"), before);
        Check.same("what can be undone", wall.undo() + " " + wall.undo(), "1 0");
        Check.same("the greatest radius is one that can be written",
                Walls.run(wall, "layer n;paint 0 0075 1;erase 0 00 9"), 3);
        Check.same("after it", wall.painted(0), 0);
    }

    private static void promise40MalformedComesFirst() {
        ShadowWall wall = new ShadowWall();
        Walls.runRefused(wall, "layer n;hide 5;shew 0", IllegalArgumentException.class);
        Check.same("no command was carried out", wall.layerCount(), 0);
        Check.same("the error position", wall.errorPosition(), 17);
        Check.throwsJust("no command failed", NoSuchElementException.class, wall::failedCommand);
        Check.same("a malformed text is not recorded", wall.undoCount(), 0);
    }

    private static void promises40And41ErrorPositions() {
        malformedAt("", 0);
        malformedAt(";", 0);
        malformedAt(" hide 0", 0);
        malformedAt("Hide 0", 0);
        malformedAt("x", 0);
        malformedAt("hide 0;", 7);
        malformedAt("hide 0;;", 7);
        malformedAt("hide 0; show 0", 7);
        malformedAt("hide 0 ", 6);
        malformedAt("hide 0show 0", 6);
        malformedAt("hide 10", 6);
        malformedAt("hide -1", 5);
        malformedAt("hide  0", 5);
        malformedAt("hide", 4);
        malformedAt("hide ", 5);
        malformedAt("hide;", 4);
        malformedAt("hIde 0", 1);
        malformedAt("hie 0", 2);
        malformedAt("hide0", 4);
        malformedAt("hide\t0", 4);
        malformedAt("hide #", 5);
        malformedAt("hide :", 5);
        malformedAt("hide /", 5);
        malformedAt("hide " + (char) ('0' + 256), 5);
        malformedAt("hide " + (char) 0x0660, 5);
        malformedAt("s", 1);
        malformedAt("shot 0", 3);
        malformedAt("show n", 5);
        malformedAt("m", 1);
        malformedAt("ma", 1);
        malformedAt("me", 2);
        malformedAt("mo", 2);
        malformedAt("mergr 0", 4);
        malformedAt("merve 0", 3);
        malformedAt("morge 0", 2);
        malformedAt("merge 1 0", 7);
        malformedAt("move 0", 6);
        malformedAt("move 01", 6);
        malformedAt("move 0 ", 7);
        malformedAt("move 0 12", 8);
        malformedAt("layer", 5);
        malformedAt("layer ", 6);
        malformedAt("layer x", 6);
        malformedAt("layer *", 6);
        malformedAt("layer N", 6);
        malformedAt("layer nn", 7);
        malformedAt("layer n;layer", 13);
        malformedAt("layers n", 5);
        malformedAt("paint 0 0000", 12);
        malformedAt("paint 0 0000 ", 13);
        malformedAt("paint 0 000 1", 11);
        malformedAt("paint 0 00000 1", 12);
        malformedAt("paint 0 0000 123", 15);
        malformedAt("paint 0 0000 1 ", 14);
        malformedAt("paint 0 0000 +", 13);
        malformedAt("paint 0 0000 1+", 14);
        malformedAt("paint 0 0000 -1", 13);
        malformedAt("paint 00 0000 1", 7);
        malformedAt("paint 0 0 0 0 0 1", 9);
        malformedAt("pant 0 0000 1", 2);
        malformedAt("erase 0 000 1", 10);
        malformedAt("erase 0 0 0 1", 9);
        malformedAt("erase 0 00 10", 12);
        malformedAt("erase 0 00 1;e", 14);
        malformedAt("cast 0 123", 9);
        malformedAt("cast 0 ", 7);
        malformedAt("cast 0 a", 7);
        malformedAt("cost 0 12", 1);
        malformedAt("hide 0;hide 0;hide 0;hide 0;hide 0;hide 0;hide 0;hide 0;hide", 60);
        malformedAt("hide 0;hide 0;hide 0;hide 0;hide 0;hide 0;hide 0;hide 0;huds", 57);
    }

    private static void malformedAt(String text, int position) {
        ShadowWall wall = new ShadowWall();
        wall.addLayer('n');
        String before = Picture.of(wall);
        Walls.runRefused(wall, text, IllegalArgumentException.class);
        Check.same("error position of \"" + text + "\"", wall.errorPosition(), position);
        Check.same("the state after it", Picture.of(wall).replace("error " + position, "error none"), before);
        Check.same("the input buffer is empty after it", wall.feed('l'), 1);
    }

    private static void promise41NoErrorPosition() {
        ShadowWall wall = new ShadowWall();
        Check.refuses("errorPosition at first", wall, NoSuchElementException.class, wall::errorPosition);
        Walls.run(wall, "layer n");
        Check.refuses("errorPosition when all is well", wall, NoSuchElementException.class, wall::errorPosition);
        Walls.runRefused(wall, "show 0", UnsupportedOperationException.class);
        Check.refuses("errorPosition of a failed one", wall, NoSuchElementException.class, wall::errorPosition);
        Walls.runRefused(wall, "shew 0", IllegalArgumentException.class);
        Check.same("errorPosition", wall.errorPosition(), 2);
        Walls.run(wall, "hide 0");
        Check.same("errorPosition is kept when a later text is well", wall.errorPosition(), 2);
        Walls.runRefused(wall, "hide 0", UnsupportedOperationException.class);
        Check.same("errorPosition is kept when a later text fails", wall.errorPosition(), 2);
        wall.undo();
        Check.same("errorPosition is not undone", wall.errorPosition(), 2);
        Walls.runRefused(wall, "", IllegalArgumentException.class);
        Check.same("errorPosition of the latest", wall.errorPosition(), 0);
        wall.save();
        Walls.runRefused(wall, "hides", IllegalArgumentException.class);
        wall.restore();
        Check.same("errorPosition is not restored", wall.errorPosition(), 4);
    }

    private static void promise42FailedCommand() {
        ShadowWall wall = new ShadowWall();
        Check.refuses("failedCommand at first", wall, NoSuchElementException.class, wall::failedCommand);
        Walls.run(wall, "layer n");
        Check.refuses("failedCommand when all is well", wall, NoSuchElementException.class, wall::failedCommand);
        Walls.runRefused(wall, "layer m;layer n;merge 1", UnsupportedOperationException.class);
        Check.same("failedCommand", wall.failedCommand(), 2);
        Walls.run(wall, "hide 0");
        Check.same("failedCommand is kept when a later text is well", wall.failedCommand(), 2);
        Walls.runRefused(wall, "hide", IllegalArgumentException.class);
        Check.same("failedCommand is kept when a later text is malformed", wall.failedCommand(), 2);
        wall.undo();
        Check.same("failedCommand is not undone", wall.failedCommand(), 2);
        wall.save();
        Walls.runRefused(wall, "hide 7;hide 0", UnsupportedOperationException.class);
        Check.same("failedCommand of the latest", wall.failedCommand(), 0);
        wall.restore();
        Check.same("failedCommand is not restored", wall.failedCommand(), 0);
    }
}
