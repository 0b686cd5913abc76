import java.util.ArrayDeque;
import java.util.Deque;
import java.util.List;
import java.util.function.Consumer;

/** The edges that promises 43 to 49 and the paragraphs "Undo" and "Errors" name, a test each. */
public final class StatesEdgesTest {
    /** The methods that are recorded, each with a call that changes nothing of the layers if there is one. */
    private static final List<Consumer<ShadowWall>> RECORDED = List.of(
            wall -> wall.addLayer('s'),
            wall -> wall.removeLayer(2),
            wall -> wall.paint(0, 0, 0, 0, 0, 1),
            wall -> wall.erase(0, 7, 5, 0),
            wall -> wall.hide(0),
            wall -> wall.show(2),
            wall -> wall.moveLayer(1, 1),
            wall -> wall.mergeDown(1),
            wall -> wall.castShadow(1, 12),
            wall -> Walls.run(wall, "move 0 0"));

    public static void main(String[] arguments) {
        promise43EachRow();
        promise43EachTone();
        promise44FromNoneToSix();
        promise44Numbers();
        promise44Hidden();
        promise45InitiallyEmpty();
        promise45FirstAndLastIndex();
        promise45Replaced();
        promise45StaysWhenRefused();
        promise46FromNoneToEight();
        promise46EachRecordedMethod();
        promise46OtherMethods();
        promise46RefusedMethods();
        promise47LatestFirst();
        promise47NineCalls();
        promise47ManyTimesAround();
        promise47OlderThanTheEighth();
        promise47CanStillBeUndone();
        promise47RefusedCallsBetween();
        promise47NotPartOfTheState();
        promise48NumberOfLayers();
        promise48EarlierIsReplaced();
        promise48IsNotUndone();
        promise48IsACopy();
        promise49Kept();
        promise49NoCallCanBeUndone();
        promise49NotPartOfTheState();
        promise49LayersAndSums();
        Check.end();
    }

    private static ShadowWall threeLayers() {
        ShadowWall wall = Walls.with("nnm");
        wall.paint(0, 0, 0, 0, 0, 1);
        wall.hide(2);
        wall.save();
        wall.restore();
        return wall;
    }

    /** "the row, 0 to 5": of each, from left to right. */
    private static void promise43EachRow() {
        ShadowWall wall = Walls.like("0......1", "2......3", "4......5", "6......7", "8......9", "a......b");
        String ends = "0123456789ab";
        for (int y = 0; y < 6; y++) {
            Check.same("writeRow", wall.writeRow(y), 8);
            Check.same("output", Picture.output(wall), ends.charAt(2 * y) + "ffffff" + ends.charAt(2 * y + 1));
        }
    }

    /** "the digits 0 to 9, and the letters a to f for 10 to 15" */
    private static void promise43EachTone() {
        ShadowWall wall = Walls.with("n");
        for (int tone = 0; tone <= 15; tone++) {
            wall.paint(0, 7, 5, 7, 5, tone);
            wall.writeRow(5);
            Check.same("tone " + tone, wall.outputChar(7), "0123456789abcdef".charAt(tone));
        }
    }

    /** "with a blank between two layers": none before the first, none behind the last. */
    private static void promise44FromNoneToSix() {
        String[] due = {"", "n0", "n0 m0", "n0 m0 s0", "n0 m0 s0 d0", "n0 m0 s0 d0 l0", "n0 m0 s0 d0 l0 a0"};
        for (int layers = 0; layers <= 6; layers++) {
            ShadowWall wall = Walls.with("nmsdla".substring(0, layers));
            wall.writeRow(0);
            Check.same("writeLayers", wall.writeLayers(), due[layers].length());
            Check.same("output", Picture.output(wall), due[layers]);
        }
    }

    /** "the number of cells in which it has a tone": with one digit or with two. */
    private static void promise44Numbers() {
        ShadowWall wall = Walls.with("l");
        for (int cell = 0; cell < 48; cell++) {
            wall.paint(0, cell % 8, cell / 8, cell % 8, cell / 8, 0);
            Check.same("writeLayers", wall.writeLayers(), cell < 9 ? 2 : 3);
            Check.same("output", Picture.output(wall), "l" + (cell + 1));
        }
    }

    /** "\"-\" if it is hidden" */
    private static void promise44Hidden() {
        ShadowWall wall = Walls.with("nmsdla");
        for (int layer = 0; layer < 6; layer++) {
            wall.paint(layer, 0, 0, 7, 5, layer);
            wall.hide(layer);
        }
        Check.same("the longest", wall.writeLayers(), 29);
        Check.same("output", Picture.output(wall), "n-48 m-48 s-48 d-48 l-48 a-48");
        wall.show(5);
        wall.show(0);
        Check.same("writeLayers", wall.writeLayers(), 27);
        Check.same("output", Picture.output(wall), "n48 m-48 s-48 d-48 l-48 a48");
    }

    /** "The output is initially empty." */
    private static void promise45InitiallyEmpty() {
        ShadowWall wall = Walls.with("n");
        for (int index = -1; index < 60; index++) {
            int at = index;
            Check.throwsJust("outputChar", IndexOutOfBoundsException.class, () -> wall.outputChar(at));
        }
    }

    /** "index of a character of the output" */
    private static void promise45FirstAndLastIndex() {
        ShadowWall wall = Walls.like("0123456");
        int length = wall.writeRow(0);
        Check.same("first and last", "" + wall.outputChar(0) + wall.outputChar(length - 1), "0f");
        Check.throwsJust("before it", IndexOutOfBoundsException.class, () -> wall.outputChar(-1));
        Check.throwsJust("behind it", IndexOutOfBoundsException.class, () -> wall.outputChar(length));
        wall.writeLayers();
        Check.same("first and last of a shorter one", "" + wall.outputChar(0) + wall.outputChar(1), "n7");
        Check.throwsJust("behind it", IndexOutOfBoundsException.class, () -> wall.outputChar(2));
    }

    /** "Replaces the output": by a longer one, a shorter one, an empty one; and only writeRow and writeLayers do. */
    private static void promise45Replaced() {
        ShadowWall wall = Walls.with("nmsdla");
        wall.writeLayers();
        wall.writeRow(0);
        Check.same("a shorter one", Picture.output(wall), "ffffffff");
        wall.writeLayers();
        Check.same("a longer one", Picture.output(wall), "n0 m0 s0 d0 l0 a0");
        wall.paint(0, 0, 0, 7, 5, 0);
        Check.same("what is painted later is not in it", Picture.output(wall), "n0 m0 s0 d0 l0 a0");
        for (int i = 0; i < 6; i++) {
            wall.removeLayer(0);
        }
        wall.writeLayers();
        Check.same("an empty one", Picture.output(wall), "");
    }

    private static void promise45StaysWhenRefused() {
        ShadowWall wall = Walls.like("8");
        wall.writeLayers();
        Check.refuses("row 6", wall, IndexOutOfBoundsException.class, () -> wall.writeRow(6));
        Check.refuses("row -1", wall, IndexOutOfBoundsException.class, () -> wall.writeRow(-1));
        Check.same("output", Picture.output(wall), "n1");
    }

    /** "Returns the number, 0 to 8." */
    private static void promise46FromNoneToEight() {
        ShadowWall wall = new ShadowWall();
        Check.same("at first", wall.undoCount(), 0);
        wall.addLayer('n');
        for (int calls = 2; calls <= 40; calls++) {
            wall.paint(0, 0, 0, 0, 0, calls % 16);
            Check.same("after " + calls, wall.undoCount(), calls < 8 ? calls : 8);
        }
    }

    /** "are recorded when they return normally, even if nothing changes" */
    private static void promise46EachRecordedMethod() {
        for (int i = 0; i < RECORDED.size(); i++) {
            ShadowWall wall = threeLayers();
            String before = Picture.of(wall);
            RECORDED.get(i).accept(wall);
            Check.same("recorded method " + i, wall.undoCount(), 1);
            Check.same("undo of method " + i, wall.undo(), 0);
            Check.same("the state after it", Picture.of(wall), before);
        }
    }

    /** Those that are not named as recorded: none of them can be undone, nor do they take back what can. */
    private static void promise46OtherMethods() {
        ShadowWall wall = threeLayers();
        wall.paint(0, 5, 5, 5, 5, 5);
        wall.save();
        wall.feed('x');
        wall.writeRow(0);
        wall.writeLayers();
        wall.outputChar(0);
        wall.isConsistent();
        wall.commonestTone();
        wall.differentCells(0, 1);
        wall.undoCount();
        Check.same("undoCount", wall.undoCount(), 1);
        wall.undo();
        Check.same("what is undone is the paint", wall.undoCount() + " " + wall.painted(0), "0 1");
    }

    /** "when they return normally" */
    private static void promise46RefusedMethods() {
        ShadowWall wall = threeLayers();
        Class<IndexOutOfBoundsException> index = IndexOutOfBoundsException.class;
        Check.refuses("addLayer", wall, IllegalArgumentException.class, () -> wall.addLayer('x'));
        Check.refuses("removeLayer", wall, index, () -> wall.removeLayer(3));
        Check.refuses("paint", wall, index, () -> wall.paint(3, 0, 0, 0, 0, 1));
        Check.refuses("erase", wall, index, () -> wall.erase(3, 0, 0, 1));
        Check.refuses("hide", wall, IllegalStateException.class, () -> wall.hide(2));
        Check.refuses("show", wall, IllegalStateException.class, () -> wall.show(0));
        Check.refuses("moveLayer", wall, index, () -> wall.moveLayer(0, 3));
        Check.refuses("mergeDown", wall, UnsupportedOperationException.class, () -> wall.mergeDown(2));
        Check.refuses("castShadow", wall, IllegalArgumentException.class, () -> wall.castShadow(0, 5));
        Walls.runRefused(wall, "hide 0;hide 0", UnsupportedOperationException.class);
        Walls.runRefused(wall, "hide 0;", IllegalArgumentException.class);
        Check.same("undoCount", wall.undoCount(), 0);
    }

    /** "Undoes the latest recorded call." */
    private static void promise47LatestFirst() {
        ShadowWall wall = threeLayers();
        wall.addLayer('s');
        wall.paint(3, 0, 0, 7, 5, 2);
        wall.hide(0);
        wall.undo();
        Check.same("hide", wall.isVisible(0) + " " + wall.painted(3), "true 48");
        wall.undo();
        Check.same("paint", wall.layerCount() + " " + wall.painted(3) + " " + wall.paintedCells(), "4 0 1");
        wall.undo();
        Check.same("addLayer", wall.layerCount(), 3);
    }

    /** "At most the 8 latest calls can be undone." */
    private static void promise47NineCalls() {
        ShadowWall wall = threeLayers();
        for (int x = 0; x < 8; x++) {
            wall.paint(1, x, 0, x, 0, x);
        }
        Check.same("8 calls", wall.undoCount(), 8);
        wall.paint(1, 0, 1, 0, 1, 8);
        for (int left = 7; left >= 0; left--) {
            Check.same("undo", wall.undo(), left);
            Check.same("painted", wall.painted(1), left + 1);
        }
        Check.refuses("the first of 9", wall, IllegalStateException.class, wall::undo);
        Check.same("it is not undone", wall.tone(1, 0, 0), 0);
    }

    /** Calls and undos in turn, so that what is kept of older calls is used again and again. */
    private static void promise47ManyTimesAround() {
        ShadowWall wall = Walls.with("n");
        wall.save();
        wall.restore();
        Deque<String> earlier = new ArrayDeque<>();
        for (int turn = 0; turn < 30; turn++) {
            for (int i = 0; i <= turn % 10; i++) {
                earlier.push(Picture.layers(wall));
                wall.paint(0, (turn + i) % 8, i % 6, 7, 5, (3 * turn + i) % 16);
            }
            while (earlier.size() > 8) {
                earlier.removeLast();
            }
            Check.same("undoCount", wall.undoCount(), earlier.size());
            for (int i = 0; i < turn % 9 && !earlier.isEmpty(); i++) {
                Check.same("undo", wall.undo(), earlier.size() - 1);
                Check.same("the state after it", Picture.layers(wall), earlier.pop());
            }
        }
    }

    private static void promise47OlderThanTheEighth() {
        ShadowWall wall = threeLayers();
        for (int i = 0; i < 12; i++) {
            wall.paint(1, 0, 0, 0, 0, i);
        }
        for (int i = 0; i < 5; i++) {
            wall.undo();
        }
        Check.same("after 12 calls and 5 undone", wall.undoCount() + " " + wall.tone(1, 0, 0), "3 6");
        for (int left = 2; left >= 0; left--) {
            Check.same("undo", wall.undo() + " " + wall.tone(1, 0, 0), left + " " + (left + 3));
        }
        Check.refuses("the fourth of 12", wall, IllegalStateException.class, wall::undo);
    }

    /** "Returns how many calls can still be undone.": calls after an undo are counted anew. */
    private static void promise47CanStillBeUndone() {
        ShadowWall wall = threeLayers();
        for (int i = 0; i < 8; i++) {
            wall.paint(1, i, 0, i, 0, 1);
        }
        Check.same("undo", wall.undo() + " " + wall.undo(), "7 6");
        wall.paint(1, 0, 5, 0, 5, 2);
        Check.same("one more", wall.undoCount(), 7);
        wall.paint(1, 1, 5, 1, 5, 2);
        wall.paint(1, 2, 5, 2, 5, 2);
        Check.same("not more than 8", wall.undoCount(), 8);
        for (int left = 7; left >= 0; left--) {
            Check.same("undo", wall.undo() + " " + wall.painted(1), left + " " + (left + 1));
        }
    }

    /** A refused call does not take the place of one that can be undone. */
    private static void promise47RefusedCallsBetween() {
        ShadowWall wall = threeLayers();
        for (int i = 0; i < 20; i++) {
            wall.paint(1, i % 8, i / 8, i % 8, i / 8, 1);
            Check.throwsJust("paint", IllegalArgumentException.class, () -> wall.paint(1, 0, 0, 7, 5, 16));
            Walls.runRefused(wall, "paint 1 0075 2;hide 3", UnsupportedOperationException.class);
        }
        for (int left = 7; left >= 0; left--) {
            Check.throwsJust("hide", IllegalStateException.class, () -> wall.hide(2));
            Check.same("undo", wall.undo() + " " + wall.painted(1) + " " + wall.paintedCells(),
                    left + " " + (left + 12) + " " + (left + 13));
            Walls.runRefused(wall, "erase 1 00 9;hide 3", UnsupportedOperationException.class);
        }
    }

    /** "The input buffer, the output, the error position and the failed command are not part of the undone .. state" */
    private static void promise47NotPartOfTheState() {
        ShadowWall wall = threeLayers();
        wall.hide(0);
        Walls.runRefused(wall, "hide 1;hide 1", UnsupportedOperationException.class);
        Walls.runRefused(wall, "hide x", IllegalArgumentException.class);
        wall.writeLayers();
        Walls.feed(wall, "hide");
        wall.undo();
        Check.same("failedCommand, errorPosition", wall.failedCommand() + " " + wall.errorPosition(), "1 5");
        Check.same("output", Picture.output(wall), "n-1 n0 m-0");
        Check.same("input buffer", wall.feed(' ') + " " + wall.feed('1') + " " + wall.runCommands(), "5 6 1");
        Check.same("the layers after it", wall.isVisible(0) + " " + wall.isVisible(1), "true false");
    }

    /** "Returns the number of layers.": from 0 to 6. */
    private static void promise48NumberOfLayers() {
        for (int layers = 0; layers <= 6; layers++) {
            ShadowWall wall = Walls.with("nmsdla".substring(0, layers));
            Check.same("save", wall.save(), layers);
            if (layers > 0) {
                wall.removeLayer(0);
            }
            Check.same("restore", wall.restore() + " " + wall.layerCount(), layers + " " + layers);
        }
    }

    /** "An earlier saved state is replaced." */
    private static void promise48EarlierIsReplaced() {
        ShadowWall wall = Walls.with("nmsdla");
        wall.paint(5, 0, 0, 7, 5, 3);
        wall.save();
        for (int i = 0; i < 6; i++) {
            wall.removeLayer(0);
        }
        Check.same("save of none", wall.save(), 0);
        wall.addLayer('d');
        Check.same("restore of none", wall.restore() + " " + wall.layerCount(), "0 0");
        wall.addLayer('s');
        Check.same("save of one", wall.save(), 1);
        wall.removeLayer(0);
        Check.same("restore of one", wall.restore() + " " + wall.mode(0) + " " + wall.painted(0), "1 s 0");
    }

    private static void promise48IsNotUndone() {
        ShadowWall wall = Walls.like("1");
        wall.paint(0, 1, 0, 7, 0, 1);
        wall.save();
        wall.undo();
        Check.same("undo is that of the paint", wall.painted(0), 1);
        Check.same("the saved state stays", wall.restore() + " " + wall.painted(0), "1 8");
    }

    /** What is done after save is not done to the saved state. */
    private static void promise48IsACopy() {
        ShadowWall wall = threeLayers();
        wall.save();
        String saved = Picture.of(wall);
        for (Consumer<ShadowWall> change : RECORDED) {
            change.accept(wall);
            wall.restore();
            Check.same("after restore", Picture.of(wall), saved);
        }
    }

    /** "The saved state is kept" */
    private static void promise49Kept() {
        ShadowWall wall = Walls.like("123");
        wall.save();
        for (int i = 0; i < 10; i++) {
            wall.paint(0, 0, 0, 7, 5, i);
            wall.erase(0, i % 8, 3, 2);
            Check.same("restore", wall.restore() + " " + wall.painted(0) + " " + wall.tone(0, 2, 0), "1 3 3");
        }
        wall.removeLayer(0);
        wall.undo();
        wall.restore();
        wall.restore();
        Check.same("twice", wall.layerCount() + " " + wall.painted(0), "1 3");
    }

    /** "and no call can be undone afterwards" */
    private static void promise49NoCallCanBeUndone() {
        ShadowWall wall = Walls.with("nmsdla");
        wall.save();
        wall.paint(0, 0, 0, 0, 0, 1);
        wall.paint(0, 0, 0, 0, 0, 1);
        Check.same("8 calls", wall.undoCount(), 8);
        wall.restore();
        Check.same("none", wall.undoCount(), 0);
        Check.refuses("undo", wall, IllegalStateException.class, wall::undo);
        wall.removeLayer(5);
        Check.same("a call after it", wall.undoCount() + " " + wall.undo() + " " + wall.layerCount(), "1 0 6");
        Check.refuses("undo", wall, IllegalStateException.class, wall::undo);
    }

    /** "are not part of the .. saved state" */
    private static void promise49NotPartOfTheState() {
        ShadowWall wall = threeLayers();
        wall.save();
        Walls.runRefused(wall, "hide 1;hide 1", UnsupportedOperationException.class);
        Walls.runRefused(wall, "hide x", IllegalArgumentException.class);
        wall.writeLayers();
        Walls.feed(wall, "hide");
        wall.restore();
        Check.same("failedCommand, errorPosition", wall.failedCommand() + " " + wall.errorPosition(), "1 5");
        Check.same("output", Picture.output(wall), "n1 n0 m-0");
        Check.same("input buffer", wall.feed(' ') + " " + wall.feed('1') + " " + wall.runCommands(), "5 6 1");
    }

    /** "Saves all layers and sums." */
    private static void promise49LayersAndSums() {
        ShadowWall wall = Walls.with("nmsdla");
        for (int layer = 0; layer < 6; layer++) {
            wall.paint(layer, layer, 0, 7, 5, 15 - layer);
            wall.erase(layer, 7, layer, layer);
        }
        wall.hide(3);
        String layers = Picture.layers(wall);
        String sums = wall.paintedCells() + " " + wall.erasedCells();
        wall.save();
        for (int i = 0; i < 6; i++) {
            wall.erase(0, 4, 2, 9);
            wall.removeLayer(0);
        }
        wall.addLayer('n');
        wall.paint(0, 0, 0, 7, 5, 0);
        wall.restore();
        Check.same("layers", Picture.layers(wall), layers);
        Check.same("sums", wall.paintedCells() + " " + wall.erasedCells(), sums);
    }
}
