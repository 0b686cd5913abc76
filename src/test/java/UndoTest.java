import java.util.ArrayDeque;
import java.util.Deque;
import java.util.function.Consumer;

/** Promises 46 to 49: undo, save and restore. */
public final class UndoTest {
    public static void main(String[] arguments) {
        promises46And47EachRecordedCall();
        promise47CallsThatChangeNothing();
        promise47EightCalls();
        promise47AfterUndo();
        promise47Refused();
        otherCallsAreNotRecorded();
        promise48Save();
        promise49Restore();
        promise49Refused();
        Check.end();
    }

    /** A wall on which each method that is recorded can do something. */
    private static ShadowWall paintedWall() {
        ShadowWall wall = new ShadowWall();
        wall.addLayer('n');
        wall.addLayer('n');
        wall.addLayer('a');
        wall.paint(0, 0, 0, 3, 3, 5);
        wall.paint(1, 2, 2, 5, 5, 6);
        wall.paint(2, 1, 1, 6, 4, 9);
        wall.erase(0, 0, 0, 1);
        wall.hide(2);
        wall.save();
        wall.restore();
        return wall;
    }

    private static void isUndone(String what, Consumer<ShadowWall> change) {
        ShadowWall wall = paintedWall();
        String before = Picture.of(wall);
        Check.same(what + ": undoCount before", wall.undoCount(), 0);
        change.accept(wall);
        Check.same(what + ": it changes something", Picture.layers(wall).equals(Picture.layers(paintedWall())), false);
        Check.same(what + ": undoCount", wall.undoCount(), 1);
        Check.same(what + ": undo", wall.undo(), 0);
        Check.same(what + ": the state after undo", Picture.of(wall), before);
    }

    private static void promises46And47EachRecordedCall() {
        isUndone("addLayer", wall -> wall.addLayer('s'));
        isUndone("removeLayer", wall -> wall.removeLayer(0));
        isUndone("removeLayer at the top", wall -> wall.removeLayer(2));
        isUndone("paint", wall -> wall.paint(0, 3, 3, 7, 4, 1));
        isUndone("erase", wall -> wall.erase(1, 2, 2, 2));
        isUndone("hide", wall -> wall.hide(0));
        isUndone("show", wall -> wall.show(2));
        isUndone("moveLayer", wall -> wall.moveLayer(0, 2));
        isUndone("mergeDown", wall -> wall.mergeDown(1));
        isUndone("castShadow", wall -> wall.castShadow(2, 10));
        isUndone("runCommands", wall -> {
            Walls.feed(wall, "merge 1;move 0 1;paint 0 0000 1;erase 0 33 1;show 0;cast 0 9");
            wall.runCommands();
        });
    }

    private static void promise47CallsThatChangeNothing() {
        ShadowWall wall = paintedWall();
        wall.erase(0, 7, 5, 0);
        Check.same("erase of nothing", wall.undoCount(), 1);
        wall.moveLayer(1, 1);
        Check.same("moveLayer to its own position", wall.undoCount(), 2);
        wall.paint(0, 3, 3, 3, 3, 5);
        Check.same("paint of the same tone", wall.undoCount(), 3);
        Walls.feed(wall, "move 0 0");
        wall.runCommands();
        Check.same("runCommands", wall.undoCount(), 4);
        Check.same("paintedCells", wall.paintedCells(), 16 + 16 + 24 + 1);
        wall.undo();
        Check.same("undo of the paint", wall.undo(), 2);
        Check.same("paintedCells after it", wall.paintedCells(), 16 + 16 + 24);
    }

    private static void promise47EightCalls() {
        ShadowWall wall = paintedWall();
        Deque<String> states = new ArrayDeque<>();
        for (int i = 0; i < 21; i++) {
            states.push(Picture.layers(wall) + wall.paintedCells());
            wall.paint(i % 3, i % 8, i % 6, i % 8, i % 6, i % 16);
            Check.same("undoCount after " + (i + 1), wall.undoCount(), Math.min(i + 1, 8));
        }
        for (int left = 7; left >= 0; left--) {
            Check.same("undo", wall.undo(), left);
            Check.same("the state after it", Picture.layers(wall) + wall.paintedCells(), states.pop());
        }
        Check.refuses("undo of the ninth", wall, IllegalStateException.class, wall::undo);
    }

    private static void promise47AfterUndo() {
        ShadowWall wall = new ShadowWall();
        for (char mode : "nmsdla".toCharArray()) {
            wall.addLayer(mode);
        }
        wall.undo();
        wall.undo();
        wall.undo();
        Check.same("what is left", wall.layerCount() + " " + wall.undoCount(), "3 3");
        wall.paint(0, 0, 0, 0, 0, 1);
        wall.removeLayer(1);
        Check.same("undoCount", wall.undoCount(), 5);
        wall.undo();
        Check.same("undo of the newer ones first", wall.layerCount() + " " + wall.painted(0), "3 1");
        wall.undo();
        Check.same("then of the one before", wall.layerCount() + " " + wall.painted(0), "3 0");
        wall.undo();
        Check.same("then of the older ones", wall.layerCount() + " " + wall.mode(1), "2 m");
        wall.addLayer('a');
        Check.same("a layer in the place of one that was undone", wall.mode(2) + " " + wall.painted(2), "a 0");
    }

    private static void promise47Refused() {
        ShadowWall wall = new ShadowWall();
        Check.same("undoCount at first", wall.undoCount(), 0);
        Check.refuses("undo at first", wall, IllegalStateException.class, wall::undo);
        wall.addLayer('n');
        wall.undo();
        Check.refuses("undo of the second", wall, IllegalStateException.class, wall::undo);
        wall.addLayer('n');
        Check.refuses("paint refused", wall, IllegalArgumentException.class, () -> wall.paint(0, 0, 0, 0, 0, 16));
        Check.same("only the call that returned can be undone", wall.undo(), 0);
        Check.same("it is undone", wall.layerCount(), 0);
    }

    private static void otherCallsAreNotRecorded() {
        ShadowWall wall = paintedWall();
        wall.feed('h');
        wall.writeRow(0);
        wall.writeLayers();
        wall.save();
        wall.isConsistent();
        Check.same("undoCount", wall.undoCount(), 0);
    }

    private static void promise48Save() {
        ShadowWall wall = paintedWall();
        Check.same("save", wall.save(), 3);
        wall.removeLayer(0);
        wall.removeLayer(0);
        Check.same("save again", wall.save(), 1);
        wall.undo();
        Check.same("save is not recorded, nor undone", wall.undo() + " " + wall.layerCount(), "0 3");
        Check.same("the earlier saved state is replaced", wall.restore(), 1);
        Check.same("the one that is left", wall.mode(0) + " " + wall.painted(0), "a 24");
        ShadowWall empty = new ShadowWall();
        Check.same("save of none", empty.save(), 0);
        empty.addLayer('n');
        Check.same("restore of none", empty.restore() + " " + empty.layerCount(), "0 0");
    }

    private static void promise49Restore() {
        ShadowWall wall = paintedWall();
        String saved = Picture.of(wall);
        wall.save();
        for (int i = 0; i < 3; i++) {
            wall.removeLayer(1);
            wall.paint(0, 0, 0, 7, 5, 12);
            wall.erase(1, 3, 3, 2);
            wall.castShadow(0, 15);
            wall.show(1);
            Check.same("restore", wall.restore(), 3);
            Check.same("layers and sums are as saved, and no call can be undone", Picture.of(wall), saved);
            Check.refuses("undo after restore", wall, IllegalStateException.class, wall::undo);
        }
        wall.addLayer('l');
        Check.same("a call after restore can be undone", wall.undo(), 0);
        Check.same("it is undone", Picture.of(wall), saved);
        wall.addLayer('l');
        Walls.feed(wall, "hid");
        wall.restore();
        Check.same("the input buffer is not restored", wall.feed('e'), 4);
    }

    private static void promise49Refused() {
        ShadowWall wall = new ShadowWall();
        wall.addLayer('n');
        Check.refuses("restore without save", wall, IllegalStateException.class, wall::restore);
        Check.same("it can still be undone", wall.undo(), 0);
    }
}
