import java.util.NoSuchElementException;
import java.util.concurrent.Callable;
import java.util.function.Function;
import java.util.function.Supplier;

/**
 * Each "Throws" of the document by itself (those of promise 40 are in CommandTextEdgesTest, as runCommands empties the
 * input buffer), and: "A method that throws an exception leaves the state unchanged". The same wall is made twice; one
 * of them refuses a call. From then on both must answer alike: what is asked, the text in the input buffer, all that
 * can be undone, and the saved state.
 */
public final class RefusalTest {
    private static final Class<IndexOutOfBoundsException> INDEX = IndexOutOfBoundsException.class;
    private static final Class<IllegalArgumentException> ARGUMENT = IllegalArgumentException.class;
    private static final Class<IllegalStateException> STATE = IllegalStateException.class;
    private static final Class<NoSuchElementException> ELEMENT = NoSuchElementException.class;
    private static final Class<UnsupportedOperationException> OPERATION = UnsupportedOperationException.class;
    private static final int MIN = Integer.MIN_VALUE;
    private static final int MAX = Integer.MAX_VALUE;
    private static final int[] NO_LAYERS = {-1, 6, 7, MIN, MAX};
    private static final int[] NO_TONES = {-1, 16, 255, MIN, MAX};
    private static final int[] NO_RADII = {-1, 10, 65536, MIN, MAX};
    private static final int[] NO_HOURS = {5, 19, 0, -1, 24, MIN, MAX};

    public static void main(String[] arguments) {
        theFullWallIsFull();
        promise2();
        promise3();
        promise4();
        promise5();
        promises6And7();
        promise8();
        promise9();
        promise10();
        promises12To16();
        promises18To21();
        promises22To26();
        promises32And33();
        promise39();
        promises41And42();
        promises43And45();
        promises47And49();
        severalApply();
        Check.end();
    }

    /** A wall with as much of everything as there can be: 6 layers, 8 calls to undo, 60 characters, a saved state. */
    private static ShadowWall fullWall() {
        ShadowWall wall = Walls.with("nnmnnn");
        wall.save();
        wall.paint(0, 1, 1, 4, 3, 9);
        wall.paint(1, 3, 0, 6, 2, 10);
        wall.paint(2, 0, 4, 6, 5, 3);
        wall.paint(3, 2, 2, 2, 5, 0);
        wall.paint(4, 0, 0, 7, 5, 15);
        wall.erase(2, 2, 4, 1);
        wall.hide(4);
        wall.moveLayer(5, 5);
        wall.paint(5, 0, 0, 0, 0, 1);
        wall.writeLayers();
        Walls.feed(wall, "paint 0 0000 12;erase 1 33 1;show 4;merge 1;cast 0 12;hide 0");
        return wall;
    }

    private static void theFullWallIsFull() {
        ShadowWall wall = fullWall();
        Check.same("layers and calls to undo", wall.layerCount() + " " + wall.undoCount(), "6 8");
        Check.same("its text is well-formed", wall.runCommands(), 6);
        Check.same("its text does something", Picture.layers(wall).equals(Picture.layers(fullWall())), false);
        Check.same("its saved state is another one", wall.restore() + " " + wall.painted(0), "6 0");
    }

    private static <T> void refused(String what, Class<? extends RuntimeException> due, Function<ShadowWall, T> call) {
        refused(what, due, RefusalTest::fullWall, call);
    }

    private static <T> void refused(String what, Class<? extends RuntimeException> due, Supplier<ShadowWall> made,
            Function<ShadowWall, T> call) {
        ShadowWall wall = made.get();
        Check.throwsJust(what, due, () -> call.apply(wall));
        Check.same(what + ": all that comes after it", whatComesAfter(wall), whatComesAfter(made.get()));
    }

    private static String whatComesAfter(ShadowWall wall) {
        StringBuilder text = new StringBuilder(Picture.of(wall));
        text.append("\nrun ").append(outcome(wall::runCommands)).append(Picture.of(wall));
        text.append("\nfeed ").append(outcome(() -> wall.feed('x')));
        while (wall.undoCount() > 0) {
            text.append("\nundo ").append(wall.undo()).append(Picture.of(wall));
        }
        text.append("\nrestore ").append(outcome(wall::restore)).append(Picture.of(wall));
        return text.toString();
    }

    private static String outcome(Callable<?> call) {
        try {
            return String.valueOf(call.call());
        } catch (Exception thrown) {
            return thrown.getClass().getSimpleName();
        }
    }

    private static void promise2() {
        for (char mode : new char[] {'N', 'x', 'b', ' ', '-', 0, 'n' + 256, 0xffff}) {
            refused("2: no such mode " + (int) mode, ARGUMENT, () -> Walls.with("nm"), wall -> wall.addLayer(mode));
        }
        for (char mode : Walls.MODES.toCharArray()) {
            refused("2: there are 6 layers", STATE, wall -> wall.addLayer(mode));
        }
    }

    private static void promise3() {
        for (int layer : NO_LAYERS) {
            refused("3: no layer " + layer, INDEX, wall -> wall.removeLayer(layer));
        }
        refused("3: a wall without layers", INDEX, ShadowWall::new, wall -> wall.removeLayer(0));
    }

    private static void promise4() {
        for (int layer : NO_LAYERS) {
            refused("4: no layer " + layer, INDEX, wall -> wall.paint(layer, 1, 1, 2, 2, 7));
        }
        for (int x : Walls.NO_COLUMNS) {
            refused("4: no left column " + x, INDEX, wall -> wall.paint(0, x, 1, 2, 2, 7));
            refused("4: no right column " + x, INDEX, wall -> wall.paint(0, 1, 1, x, 2, 7));
        }
        for (int y : Walls.NO_ROWS) {
            refused("4: no upper row " + y, INDEX, wall -> wall.paint(0, 1, y, 2, 2, 7));
            refused("4: no lower row " + y, INDEX, wall -> wall.paint(0, 1, 1, 2, y, 7));
        }
        refused("4: left is greater by 1", ARGUMENT, wall -> wall.paint(0, 5, 1, 4, 2, 7));
        refused("4: left is greater by 7", ARGUMENT, wall -> wall.paint(0, 7, 1, 0, 2, 7));
        refused("4: upper is greater by 1", ARGUMENT, wall -> wall.paint(0, 1, 3, 2, 2, 7));
        refused("4: upper is greater by 5", ARGUMENT, wall -> wall.paint(0, 1, 5, 2, 0, 7));
        for (int tone : NO_TONES) {
            refused("4: tone " + tone, ARGUMENT, wall -> wall.paint(0, 1, 1, 2, 2, tone));
        }
    }

    private static void promise5() {
        for (int layer : NO_LAYERS) {
            refused("5: no layer " + layer, INDEX, wall -> wall.erase(layer, 1, 1, 2));
        }
        for (int x : Walls.NO_COLUMNS) {
            refused("5: no column " + x, INDEX, wall -> wall.erase(0, x, 1, 9));
        }
        for (int y : Walls.NO_ROWS) {
            refused("5: no row " + y, INDEX, wall -> wall.erase(0, 1, y, 9));
        }
        for (int radius : NO_RADII) {
            refused("5: radius " + radius, ARGUMENT, wall -> wall.erase(0, 1, 1, radius));
        }
    }

    private static void promises6And7() {
        for (int layer : NO_LAYERS) {
            refused("6: no layer " + layer, INDEX, wall -> wall.hide(layer));
            refused("7: no layer " + layer, INDEX, wall -> wall.show(layer));
        }
        refused("6: it is hidden", STATE, wall -> wall.hide(4));
        refused("7: it is visible", STATE, wall -> wall.show(5));
    }

    private static void promise8() {
        for (int layer : NO_LAYERS) {
            refused("8: none to move, " + layer, INDEX, wall -> wall.moveLayer(layer, 0));
            refused("8: no position " + layer, INDEX, wall -> wall.moveLayer(0, layer));
            refused("8: neither, " + layer, INDEX, wall -> wall.moveLayer(layer, layer));
        }
    }

    private static void promise9() {
        for (int layer : NO_LAYERS) {
            refused("9: no layer " + layer, INDEX, wall -> wall.mergeDown(layer));
        }
        refused("9: the lowest layer", ELEMENT, wall -> wall.mergeDown(0));
        refused("9: the upper one does not have the mode n", OPERATION, wall -> wall.mergeDown(2));
        refused("9: the lower one does not have the mode n", OPERATION, wall -> wall.mergeDown(3));
        refused("9: the upper one is hidden", OPERATION, wall -> wall.mergeDown(4));
        refused("9: the lower one is hidden", OPERATION, wall -> wall.mergeDown(5));
        for (char mode : "msdla".toCharArray()) {
            refused("9: both of the mode " + mode, OPERATION, () -> Walls.with("" + mode + mode),
                    wall -> wall.mergeDown(1));
        }
    }

    private static void promise10() {
        for (int layer : new int[] {-1, 2, 5, 6, MIN, MAX}) {
            refused("10: no layer " + layer, INDEX, () -> Walls.with("nm"), wall -> wall.castShadow(layer, 12));
        }
        for (int hour : NO_HOURS) {
            refused("10: hour " + hour, ARGUMENT, () -> Walls.with("nm"), wall -> wall.castShadow(1, hour));
        }
        refused("10: there are 6 layers", STATE, wall -> wall.castShadow(0, 12));
    }

    private static void promises12To16() {
        for (int layer : NO_LAYERS) {
            refused("12: no layer " + layer, INDEX, wall -> wall.mode(layer));
            refused("13: no layer " + layer, INDEX, wall -> wall.isVisible(layer));
            refused("14: no layer " + layer, INDEX, wall -> wall.hasTone(layer, 1, 1));
            refused("15: no layer " + layer, INDEX, wall -> wall.tone(layer, 1, 1));
            refused("16: no layer " + layer, INDEX, wall -> wall.painted(layer));
        }
        for (int x : Walls.NO_COLUMNS) {
            refused("14: no column " + x, INDEX, wall -> wall.hasTone(4, x, 1));
            refused("15: no column " + x, INDEX, wall -> wall.tone(4, x, 1));
        }
        for (int y : Walls.NO_ROWS) {
            refused("14: no row " + y, INDEX, wall -> wall.hasTone(4, 1, y));
            refused("15: no row " + y, INDEX, wall -> wall.tone(4, 1, y));
        }
        refused("15: nothing there", ELEMENT, wall -> wall.tone(0, 0, 0));
    }

    private static void promises18To21() {
        for (int x : Walls.NO_COLUMNS) {
            promises18To21At(x, 1);
        }
        for (int y : Walls.NO_ROWS) {
            promises18To21At(1, y);
        }
        refused("20: only a hidden one has a tone", ELEMENT, wall -> wall.topLayer(7, 0));
        refused("20: a wall without layers", ELEMENT, ShadowWall::new, wall -> wall.topLayer(7, 0));
    }

    private static void promises18To21At(int x, int y) {
        String where = ": no cell " + x + ", " + y;
        refused("18" + where, INDEX, wall -> wall.seen(x, y));
        refused("19" + where, INDEX, wall -> wall.seenFromTop(x, y));
        refused("20" + where, INDEX, wall -> wall.topLayer(x, y));
        refused("21" + where, INDEX, wall -> wall.coveringLayers(x, y));
    }

    private static void promises22To26() {
        for (int tone : NO_TONES) {
            refused("22: tone " + tone, ARGUMENT, wall -> wall.cellsWithTone(tone));
        }
        for (int x : Walls.NO_COLUMNS) {
            refused("24: no left column " + x, INDEX, wall -> wall.sumOfTones(x, 0, 7, 5));
            refused("24: no right column " + x, INDEX, wall -> wall.sumOfTones(0, 0, x, 5));
            refused("25: no left column " + x, INDEX, wall -> wall.sumOfTonesByTable(x, 0, 7, 5));
            refused("25: no right column " + x, INDEX, wall -> wall.sumOfTonesByTable(0, 0, x, 5));
            refused("26: no column " + x, INDEX, wall -> wall.areaSize(x, 0));
        }
        for (int y : Walls.NO_ROWS) {
            refused("24: no upper row " + y, INDEX, wall -> wall.sumOfTones(0, y, 7, 5));
            refused("24: no lower row " + y, INDEX, wall -> wall.sumOfTones(0, 0, 7, y));
            refused("25: no upper row " + y, INDEX, wall -> wall.sumOfTonesByTable(0, y, 7, 5));
            refused("25: no lower row " + y, INDEX, wall -> wall.sumOfTonesByTable(0, 0, 7, y));
            refused("26: no row " + y, INDEX, wall -> wall.areaSize(0, y));
        }
        refused("24: left is greater by 1", ARGUMENT, wall -> wall.sumOfTones(1, 0, 0, 5));
        refused("24: upper is greater by 1", ARGUMENT, wall -> wall.sumOfTones(0, 5, 7, 4));
        refused("25: left is greater by 1", ARGUMENT, wall -> wall.sumOfTonesByTable(1, 0, 0, 5));
        refused("25: upper is greater by 1", ARGUMENT, wall -> wall.sumOfTonesByTable(0, 5, 7, 4));
    }

    private static void promises32And33() {
        for (int layer : NO_LAYERS) {
            refused("32: no first layer " + layer, INDEX, wall -> wall.differentCells(layer, 0));
            refused("32: no second layer " + layer, INDEX, wall -> wall.differentCells(0, layer));
            refused("32: the same, but none, " + layer, INDEX, wall -> wall.differentCells(layer, layer));
            refused("33: no rank " + layer, ELEMENT, wall -> wall.layerByPaint(layer));
        }
        refused("33: a wall without layers", ELEMENT, ShadowWall::new, wall -> wall.layerByPaint(0));
    }

    private static void promise39() {
        for (char character : new char[] {';', '0', ' ', 0, 0xffff}) {
            refused("39: the input buffer holds 60 characters", STATE, wall -> wall.feed(character));
        }
    }

    private static void promises41And42() {
        refused("41: no text was malformed", ELEMENT, ShadowWall::errorPosition);
        refused("42: no command failed", ELEMENT, ShadowWall::failedCommand);
    }

    private static void promises43And45() {
        for (int y : Walls.NO_ROWS) {
            refused("43: no row " + y, INDEX, wall -> wall.writeRow(y));
        }
        int length = fullWall().writeLayers();
        for (int index : new int[] {-1, length, length + 1, MIN, MAX}) {
            refused("45: no character " + index, INDEX, wall -> wall.outputChar(index));
        }
        refused("45: the output is initially empty", INDEX, ShadowWall::new, wall -> wall.outputChar(0));
    }

    private static void promises47And49() {
        refused("47: no call was recorded", STATE, ShadowWall::new, ShadowWall::undo);
        refused("47: all calls are undone", STATE, () -> {
            ShadowWall wall = fullWall();
            for (int i = 0; i < 8; i++) {
                wall.undo();
            }
            return wall;
        }, ShadowWall::undo);
        refused("47: after restore", STATE, () -> {
            ShadowWall wall = fullWall();
            wall.restore();
            return wall;
        }, ShadowWall::undo);
        refused("49: no state was saved", STATE, () -> Walls.like("12", "3"), ShadowWall::restore);
    }

    /** "If several exceptions apply, the one listed first is thrown." */
    private static void severalApply() {
        refused("2: no such mode, 6 layers", ARGUMENT, wall -> wall.addLayer('x'));
        refused("4: no layer, left is greater", INDEX, wall -> wall.paint(6, 3, 1, 2, 2, 7));
        refused("4: no layer, upper is greater", INDEX, wall -> wall.paint(6, 1, 3, 2, 2, 7));
        refused("4: no layer, the tone", INDEX, wall -> wall.paint(6, 1, 1, 2, 2, 16));
        refused("4: no left column, left is greater", INDEX, wall -> wall.paint(0, 8, 1, 2, 2, 7));
        refused("4: no right column, left is greater", INDEX, wall -> wall.paint(0, 1, 1, -1, 2, 7));
        refused("4: no upper row, upper is greater", INDEX, wall -> wall.paint(0, 1, 6, 2, 2, 7));
        refused("4: no lower row, upper is greater", INDEX, wall -> wall.paint(0, 1, 1, 2, -1, 7));
        refused("4: no lower row, left is greater", INDEX, wall -> wall.paint(0, 2, 1, 1, 6, 7));
        refused("4: no cell, the tone", INDEX, wall -> wall.paint(0, 1, 1, 2, 6, -1));
        refused("5: no layer, the radius", INDEX, wall -> wall.erase(-1, 1, 1, 10));
        refused("5: no column, the radius", INDEX, wall -> wall.erase(0, 8, 1, 10));
        refused("5: no row, the radius", INDEX, wall -> wall.erase(0, 1, -1, -1));
        refused("9: the lowest, not of the mode n", ELEMENT, () -> Walls.with("mn"), wall -> wall.mergeDown(0));
        refused("9: the lowest, hidden", ELEMENT, () -> {
            ShadowWall wall = Walls.with("nn");
            wall.hide(0);
            return wall;
        }, wall -> wall.mergeDown(0));
        refused("10: no layer, the hour", INDEX, () -> Walls.with("nm"), wall -> wall.castShadow(2, 19));
        refused("10: no layer, 6 layers", INDEX, wall -> wall.castShadow(6, 12));
        refused("10: the hour, 6 layers", ARGUMENT, wall -> wall.castShadow(0, 19));
        refused("10: no layer, the hour, 6 layers", INDEX, wall -> wall.castShadow(-1, 5));
        refused("15: no layer, nothing there", INDEX, wall -> wall.tone(6, 0, 0));
        refused("24: no left column, left is greater", INDEX, wall -> wall.sumOfTones(8, 0, 7, 5));
        refused("24: no lower row, left is greater", INDEX, wall -> wall.sumOfTones(1, 0, 0, 6));
        refused("24: no right column, upper is greater", INDEX, wall -> wall.sumOfTones(0, 1, 8, 0));
        refused("25: no left column, left is greater", INDEX, wall -> wall.sumOfTonesByTable(8, 0, 7, 5));
        refused("25: no lower row, left is greater", INDEX, wall -> wall.sumOfTonesByTable(1, 0, 0, 6));
        refused("25: no right column, upper is greater", INDEX, wall -> wall.sumOfTonesByTable(0, 1, 8, 0));
    }
}
