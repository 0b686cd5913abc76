import java.util.NoSuchElementException;

/** Promises 1 to 17 and 32 to 35: what is done to the layers, and what can be asked of each. */
public final class LayersTest {
    private static final int[] NO_LAYERS_OF_TWO = {-1, 2, 6, 7, Integer.MIN_VALUE, Integer.MAX_VALUE};

    public static void main(String[] arguments) {
        promise1NewObject();
        promise2AddLayer();
        promise3RemoveLayer();
        promise4Paint();
        promise4PaintRefused();
        promise5Erase();
        promise5EraseRefused();
        promises6And7HideAndShow();
        promise8MoveLayer();
        promise9MergeDown();
        promise9MergeDownRefused();
        promise10CastShadow();
        promise10CastShadowRefused();
        promises11To17Questions();
        promise32DifferentCells();
        promise33LayerByPaint();
        promises34And35Sums();
        Check.end();
    }

    private static void promise1NewObject() {
        ShadowWall wall = new ShadowWall();
        Check.same("layers at first", wall.layerCount(), 0);
        Check.same("state at first", Picture.of(wall), "\npainted 0 erased 0 undo 0 error none failed none output ");
        for (int y = 0; y < 6; y++) {
            for (int x = 0; x < 8; x++) {
                Check.same("seen at first", wall.seen(x, y), 15);
            }
        }
    }

    private static void promise2AddLayer() {
        ShadowWall wall = new ShadowWall();
        String modes = "nmsdla";
        for (int i = 0; i < 6; i++) {
            Check.same("addLayer", wall.addLayer(modes.charAt(i)), i);
            Check.same("layerCount", wall.layerCount(), i + 1);
            Check.same("mode of the new layer", wall.mode(i), modes.charAt(i));
            Check.same("the new layer is visible", wall.isVisible(i), true);
            Check.same("the new layer is empty", wall.painted(i), 0);
        }
        Check.refuses("addLayer to 6", wall, IllegalStateException.class, () -> wall.addLayer('n'));
        Check.refuses("no such mode, and 6 layers", wall, IllegalArgumentException.class, () -> wall.addLayer('x'));
        ShadowWall empty = new ShadowWall();
        for (char mode = 0; mode < 400; mode++) {
            if (modes.indexOf(mode) < 0) {
                char wrong = mode;
                Check.refuses("mode " + (int) mode, empty, IllegalArgumentException.class, () -> empty.addLayer(wrong));
            }
        }
        Check.refuses("mode n of 16 bits", empty, IllegalArgumentException.class,
                () -> empty.addLayer((char) ('n' + 256)));
    }

    private static void promise3RemoveLayer() {
        ShadowWall wall = Walls.with("nmsdla");
        wall.paint(4, 0, 0, 0, 0, 3);
        Check.same("removeLayer in the middle", wall.removeLayer(2), 5);
        Check.same("the layer above goes down", wall.mode(2), 'd');
        Check.same("the painted one goes down", wall.tone(3, 0, 0), 3);
        Check.same("removeLayer at the top", wall.removeLayer(4), 4);
        Check.same("removeLayer at the bottom", wall.removeLayer(0), 3);
        Check.same("left", "" + wall.mode(0) + wall.mode(1) + wall.mode(2), "mdl");
        Check.same("a removed layer's place is taken by an empty one", wall.addLayer('n'), 3);
        wall.paint(3, 0, 0, 7, 5, 1);
        wall.hide(3);
        wall.removeLayer(3);
        wall.addLayer('n');
        Check.same("the new one has nothing of the removed one", wall.painted(3), 0);
        Check.same("the new one is visible", wall.isVisible(3), true);
        for (int layer : new int[] {-1, 4, 5, 6, Integer.MIN_VALUE, Integer.MAX_VALUE}) {
            Check.refuses("removeLayer " + layer, wall, IndexOutOfBoundsException.class, () -> wall.removeLayer(layer));
        }
        ShadowWall empty = new ShadowWall();
        Check.refuses("removeLayer of none", empty, IndexOutOfBoundsException.class, () -> empty.removeLayer(0));
    }

    private static void promise4Paint() {
        ShadowWall wall = Walls.with("nn");
        Check.same("paint", wall.paint(0, 2, 1, 4, 2, 7), 6);
        Check.same("what is painted", Picture.layers(wall),
                "\nn+ ........ ..777... ..777... ........ ........ ........ "
                + "\nn+ ........ ........ ........ ........ ........ ........ ");
        Check.same("paint over a part", wall.paint(0, 4, 2, 5, 3, 0), 3);
        Check.same("the later tone holds", wall.tone(0, 4, 2), 0);
        Check.same("the earlier tone holds elsewhere", wall.tone(0, 3, 2), 7);
        Check.same("paint the same again", wall.paint(0, 4, 2, 5, 3, 15), 0);
        Check.same("one cell", wall.paint(1, 7, 5, 7, 5, 15), 1);
        Check.same("the whole wall", wall.paint(1, 0, 0, 7, 5, 0), 47);
        Check.same("a hidden layer: hide", wall.hide(1), 1);
        Check.same("a hidden layer: paint", wall.paint(1, 0, 0, 0, 0, 9), 0);
        Check.same("a hidden layer: tone", wall.tone(1, 0, 0), 9);
    }

    private static void promise4PaintRefused() {
        ShadowWall wall = Walls.with("nn");
        wall.paint(0, 2, 2, 3, 3, 4);
        Class<IndexOutOfBoundsException> index = IndexOutOfBoundsException.class;
        Class<IllegalArgumentException> argument = IllegalArgumentException.class;
        for (int layer : NO_LAYERS_OF_TWO) {
            Check.refuses("paint layer " + layer, wall, index, () -> wall.paint(layer, 0, 0, 1, 1, 1));
            Check.refuses("paint layer and tone", wall, index, () -> wall.paint(layer, 1, 1, 0, 0, 16));
        }
        for (int x : Walls.NO_COLUMNS) {
            Check.refuses("paint left " + x, wall, index, () -> wall.paint(0, x, 0, 7, 1, 1));
            Check.refuses("paint right " + x, wall, index, () -> wall.paint(0, 0, 0, x, 1, 1));
            Check.refuses("paint right and tone", wall, index, () -> wall.paint(0, 0, 0, x, 1, -1));
        }
        for (int y : Walls.NO_ROWS) {
            Check.refuses("paint upper " + y, wall, index, () -> wall.paint(0, 0, y, 1, 5, 1));
            Check.refuses("paint lower " + y, wall, index, () -> wall.paint(0, 0, 0, 1, y, 1));
            Check.refuses("paint lower, and reversed", wall, index, () -> wall.paint(0, 1, 0, 0, y, 1));
        }
        Check.refuses("paint reversed columns", wall, argument, () -> wall.paint(0, 4, 0, 3, 0, 1));
        Check.refuses("paint reversed rows", wall, argument, () -> wall.paint(0, 3, 3, 3, 2, 1));
        for (int tone : new int[] {-1, 16, Integer.MIN_VALUE, Integer.MAX_VALUE}) {
            Check.refuses("paint tone " + tone, wall, argument, () -> wall.paint(0, 0, 0, 1, 1, tone));
        }
    }

    private static void promise5Erase() {
        ShadowWall wall = Walls.with("nn");
        wall.paint(0, 0, 0, 7, 5, 7);
        wall.paint(1, 0, 0, 7, 5, 1);
        Check.same("radius 0", wall.erase(0, 7, 0, 0), 1);
        Check.same("radius 2", wall.erase(0, 3, 3, 2), 13);
        Check.same("a circle of radius 2", Picture.layers(wall),
                "\nn+ 7777777. 777.7777 77...777 7.....77 77...777 777.7777 "
                + "\nn+ 11111111 11111111 11111111 11111111 11111111 11111111 ");
        Check.same("the same again", wall.erase(0, 3, 3, 2), 0);
        Check.same("cells outside the wall", wall.erase(1, 0, 0, 3), 11);
        Check.same("5 by 0 and 4 by 3 are in the circle of radius 5", wall.erase(1, 0, 5, 5), 18);
        Check.same("left of it", Picture.layers(wall).split("\n")[2],
                "n+ ....1111 ....1111 .....111 .....111 .....111 ......11 ");
        Check.same("the greatest radius", wall.erase(1, 7, 5, 9), 19);
        wall.paint(1, 0, 0, 7, 5, 1);
        Check.same("radius 8 does not reach the far corner", wall.erase(1, 7, 5, 8), 46);
        Check.same("what is left", wall.hasTone(1, 0, 0) && wall.hasTone(1, 0, 1), true);
        Check.same("a hidden layer", wall.hide(1) + wall.erase(1, 0, 0, 1), 1 + 2);
    }

    private static void promise5EraseRefused() {
        ShadowWall wall = Walls.with("nn");
        wall.paint(0, 0, 0, 7, 5, 7);
        Class<IndexOutOfBoundsException> index = IndexOutOfBoundsException.class;
        for (int layer : NO_LAYERS_OF_TWO) {
            Check.refuses("erase layer " + layer, wall, index, () -> wall.erase(layer, 0, 0, 1));
            Check.refuses("erase layer and radius", wall, index, () -> wall.erase(layer, 0, 0, 10));
        }
        for (int x : Walls.NO_COLUMNS) {
            Check.refuses("erase x " + x, wall, index, () -> wall.erase(0, x, 0, 9));
            Check.refuses("erase x and radius", wall, index, () -> wall.erase(0, x, 0, -1));
        }
        for (int y : Walls.NO_ROWS) {
            Check.refuses("erase y " + y, wall, index, () -> wall.erase(0, 0, y, 9));
            Check.refuses("erase y and radius", wall, index, () -> wall.erase(0, 0, y, -1));
        }
        for (int radius : new int[] {-1, 10, 65536, Integer.MIN_VALUE, Integer.MAX_VALUE}) {
            Check.refuses("erase radius " + radius, wall, IllegalArgumentException.class,
                    () -> wall.erase(0, 0, 0, radius));
        }
    }

    private static void promises6And7HideAndShow() {
        ShadowWall wall = Walls.with("nn");
        wall.paint(1, 0, 0, 7, 5, 3);
        Check.same("hide", wall.hide(1), 1);
        Check.same("isVisible of a hidden one", wall.isVisible(1), false);
        Check.same("isVisible of the other", wall.isVisible(0), true);
        Check.same("seen when hidden", wall.seen(4, 4), 15);
        Check.refuses("hide again", wall, IllegalStateException.class, () -> wall.hide(1));
        Check.refuses("show a visible one", wall, IllegalStateException.class, () -> wall.show(0));
        Check.same("hide the other", wall.hide(0), 0);
        Check.same("show", wall.show(1), 1);
        Check.same("seen when shown", wall.seen(4, 4), 3);
        Check.same("show the other", wall.show(0), 2);
        for (int layer : NO_LAYERS_OF_TWO) {
            Check.refuses("hide " + layer, wall, IndexOutOfBoundsException.class, () -> wall.hide(layer));
            Check.refuses("show " + layer, wall, IndexOutOfBoundsException.class, () -> wall.show(layer));
        }
    }

    private static void promise8MoveLayer() {
        ShadowWall wall = Walls.with("nmsd");
        Check.same("move empty layers up", wall.moveLayer(0, 2), 0);
        Check.same("after it", Walls.modes(wall), "msnd");
        Check.same("move down", wall.moveLayer(3, 0), 0);
        Check.same("after it", Walls.modes(wall), "dmsn");
        Check.same("to its own position", wall.moveLayer(1, 1), 0);
        Check.same("after it", Walls.modes(wall), "dmsn");
        wall.paint(3, 0, 0, 2, 2, 5);
        wall.paint(1, 1, 1, 4, 4, 5);
        Check.same("the cells that change", wall.moveLayer(1, 3), 4);
        Check.same("and back", wall.moveLayer(3, 1), 4);
        wall.hide(1);
        Check.same("a hidden one changes nothing", wall.moveLayer(1, 3), 0);
        Check.same("after it", Walls.modes(wall) + wall.isVisible(3) + wall.painted(3), "dsnmfalse16");
        wall.show(3);
        wall.paint(0, 0, 0, 0, 0, 3);
        wall.paint(0, 7, 5, 7, 5, 3);
        wall.paint(1, 7, 5, 7, 5, 9);
        Check.same("the corners", wall.moveLayer(0, 2), 2);
        for (int layer : new int[] {-1, 4, 5, 6, Integer.MIN_VALUE, Integer.MAX_VALUE}) {
            Check.refuses("move from " + layer, wall, IndexOutOfBoundsException.class, () -> wall.moveLayer(layer, 0));
            Check.refuses("move to " + layer, wall, IndexOutOfBoundsException.class, () -> wall.moveLayer(0, layer));
        }
    }

    private static void promise9MergeDown() {
        ShadowWall wall = Walls.with("mnns");
        wall.paint(1, 0, 0, 3, 0, 2);
        wall.paint(2, 2, 0, 4, 1, 9);
        Check.same("mergeDown", wall.mergeDown(2), 8);
        Check.same("after it", Picture.layers(wall),
                "\nm+ ........ ........ ........ ........ ........ ........ "
                + "\nn+ 22999... ..999... ........ ........ ........ ........ "
                + "\ns+ ........ ........ ........ ........ ........ ........ ");
        Check.same("no cell is painted by it", wall.paintedCells(), 10);
        Check.same("no cell is erased by it", wall.erasedCells(), 0);
        ShadowWall corners = Walls.with("nn");
        corners.paint(1, 0, 0, 0, 0, 0);
        corners.paint(1, 7, 5, 7, 5, 15);
        Check.same("mergeDown of the corners", corners.mergeDown(1), 2);
        Check.same("after it", corners.tone(0, 0, 0) + " " + corners.tone(0, 7, 5), "0 15");
        ShadowWall empty = Walls.with("nn");
        Check.same("mergeDown of two empty ones", empty.mergeDown(1), 0);
        Check.same("one is left", empty.layerCount(), 1);
    }

    private static void promise9MergeDownRefused() {
        ShadowWall wall = Walls.with("mnnsn");
        Class<UnsupportedOperationException> operation = UnsupportedOperationException.class;
        Check.refuses("the upper one is not normal", wall, operation, () -> wall.mergeDown(3));
        Check.refuses("the lower one is not normal", wall, operation, () -> wall.mergeDown(4));
        Check.refuses("the lower one is not normal", wall, operation, () -> wall.mergeDown(1));
        wall.hide(2);
        Check.refuses("the upper one is hidden", wall, operation, () -> wall.mergeDown(2));
        wall.show(2);
        wall.hide(1);
        Check.refuses("the lower one is hidden", wall, operation, () -> wall.mergeDown(2));
        Check.refuses("the lowest, and not normal", wall, NoSuchElementException.class, () -> wall.mergeDown(0));
        wall.hide(0);
        Check.refuses("the lowest, and hidden", wall, NoSuchElementException.class, () -> wall.mergeDown(0));
        for (int layer : new int[] {-1, 5, 6, Integer.MIN_VALUE, Integer.MAX_VALUE}) {
            Check.refuses("mergeDown " + layer, wall, IndexOutOfBoundsException.class, () -> wall.mergeDown(layer));
        }
        ShadowWall empty = new ShadowWall();
        Check.refuses("mergeDown of none", empty, IndexOutOfBoundsException.class, () -> empty.mergeDown(0));
    }

    private static void promise10CastShadow() {
        ShadowWall wall = Walls.with("d");
        wall.paint(0, 2, 3, 3, 5, 0);
        wall.hide(0);
        Check.same("at noon, of a hidden layer", wall.castShadow(0, 12), 4);
        Check.same("the shadow at noon", shadow(wall, 1), "m+ ........ ........ ........ ........ ..88.... ..88.... ");
        Check.same("in the morning", wall.castShadow(0, 9), 2);
        Check.same("the shadow at 9", shadow(wall, 2), "m+ ........ ........ ........ ........ 8....... 8....... ");
        Check.same("in the evening", wall.castShadow(0, 17), 2);
        Check.same("the shadow at 17", shadow(wall, 3), "m+ ........ ........ ........ ........ .......8 .......8 ");
        Check.same("the earliest hour", wall.castShadow(0, 6), 0);
        Check.same("it is a layer, even without a tone", wall.layerCount(), 5);
        Check.same("the shadow of a shadow at the latest hour", wall.castShadow(2, 18), 1);
        Check.same("the shadow at 18", shadow(wall, 5), "m+ ........ ........ ........ ........ ........ ......8. ");
        Check.same("the cells of shadows are painted", wall.paintedCells(), 6 + 4 + 2 + 2 + 1);
        Check.same("the layer itself is as before", shadow(wall, 0),
                "d- ........ ........ ........ ..00.... ..00.... ..00.... ");
    }

    private static String shadow(ShadowWall wall, int layer) {
        return Picture.layers(wall).split("\n")[layer + 1];
    }

    private static void promise10CastShadowRefused() {
        ShadowWall wall = Walls.with("nn");
        wall.paint(0, 0, 0, 7, 5, 1);
        Class<IndexOutOfBoundsException> index = IndexOutOfBoundsException.class;
        Class<IllegalArgumentException> argument = IllegalArgumentException.class;
        for (int layer : NO_LAYERS_OF_TWO) {
            Check.refuses("cast " + layer, wall, index, () -> wall.castShadow(layer, 12));
            Check.refuses("cast of no layer, and the hour", wall, index, () -> wall.castShadow(layer, 5));
        }
        int[] noHours = {5, 19, -1, 0, 24, Integer.MIN_VALUE, Integer.MAX_VALUE};
        for (int hour : noHours) {
            Check.refuses("cast at " + hour, wall, argument, () -> wall.castShadow(0, hour));
        }
        ShadowWall full = Walls.with("nmsdla");
        Check.refuses("cast with 6 layers", full, IllegalStateException.class, () -> full.castShadow(5, 12));
        Check.refuses("no such layer, and 6 layers", full, index, () -> full.castShadow(6, 12));
        for (int hour : noHours) {
            Check.refuses("the hour, and 6 layers", full, argument, () -> full.castShadow(0, hour));
        }
    }

    private static void promises11To17Questions() {
        ShadowWall wall = Walls.with("sa");
        wall.paint(0, 1, 2, 1, 2, 0);
        wall.hide(1);
        Check.same("layerCount", wall.layerCount(), 2);
        Check.same("visibleCount", wall.visibleCount(), 1);
        Check.same("mode", "" + wall.mode(0) + wall.mode(1), "sa");
        Check.same("isVisible", wall.isVisible(0) + " " + wall.isVisible(1), "true false");
        Check.same("hasTone of the tone 0", wall.hasTone(0, 1, 2), true);
        Check.same("hasTone beside it", wall.hasTone(0, 2, 1), false);
        Check.same("tone", wall.tone(0, 1, 2), 0);
        Check.same("painted", wall.painted(0) + " " + wall.painted(1), "1 0");
        Class<IndexOutOfBoundsException> index = IndexOutOfBoundsException.class;
        Check.refuses("tone of nothing", wall, NoSuchElementException.class, () -> wall.tone(0, 2, 2));
        for (int layer : NO_LAYERS_OF_TWO) {
            Check.refuses("mode of " + layer, wall, index, () -> wall.mode(layer));
            Check.refuses("isVisible of " + layer, wall, index, () -> wall.isVisible(layer));
            Check.refuses("hasTone of " + layer, wall, index, () -> wall.hasTone(layer, 1, 2));
            Check.refuses("tone of " + layer, wall, index, () -> wall.tone(layer, 1, 2));
            Check.refuses("painted of " + layer, wall, index, () -> wall.painted(layer));
        }
        for (int x : Walls.NO_COLUMNS) {
            Check.refuses("hasTone at x " + x, wall, index, () -> wall.hasTone(0, x, 2));
            Check.refuses("tone at x " + x, wall, index, () -> wall.tone(0, x, 2));
        }
        for (int y : Walls.NO_ROWS) {
            Check.refuses("hasTone at y " + y, wall, index, () -> wall.hasTone(0, 1, y));
            Check.refuses("tone at y " + y, wall, index, () -> wall.tone(0, 1, y));
        }
    }

    private static void promise32DifferentCells() {
        ShadowWall wall = Walls.with("nm");
        Check.same("two empty ones", wall.differentCells(0, 1), 0);
        wall.paint(0, 0, 0, 3, 1, 5);
        wall.paint(1, 2, 0, 5, 1, 5);
        Check.same("one without a tone", wall.differentCells(0, 1), 8);
        wall.paint(1, 2, 0, 2, 0, 6);
        Check.same("and one other tone", wall.differentCells(0, 1), 9);
        Check.same("the other way round", wall.differentCells(1, 0), 9);
        wall.hide(1);
        Check.same("a hidden one", wall.differentCells(0, 1), 9);
        Check.same("the same one", wall.differentCells(1, 1), 0);
        for (int layer : NO_LAYERS_OF_TWO) {
            Check.refuses("first " + layer, wall, IndexOutOfBoundsException.class, () -> wall.differentCells(layer, 0));
            Check.refuses("second " + layer, wall, IndexOutOfBoundsException.class,
                    () -> wall.differentCells(0, layer));
        }
    }

    private static void promise33LayerByPaint() {
        ShadowWall wall = Walls.with("nmsdl");
        wall.paint(1, 0, 0, 0, 0, 1);
        wall.paint(3, 0, 0, 1, 0, 1);
        wall.paint(4, 7, 0, 7, 0, 9);
        wall.hide(3);
        int[] due = {3, 1, 4, 0, 2};
        for (int rank = 0; rank < 5; rank++) {
            Check.same("layerByPaint " + rank, wall.layerByPaint(rank), due[rank]);
        }
        for (int rank : new int[] {-1, 5, 6, Integer.MIN_VALUE, Integer.MAX_VALUE}) {
            Check.refuses("rank " + rank, wall, NoSuchElementException.class, () -> wall.layerByPaint(rank));
        }
        ShadowWall empty = new ShadowWall();
        Check.refuses("rank 0 of none", empty, NoSuchElementException.class, () -> empty.layerByPaint(0));
    }

    private static void promises34And35Sums() {
        ShadowWall wall = Walls.with("nn");
        wall.paint(0, 0, 0, 7, 5, 1);
        wall.paint(0, 0, 0, 1, 1, 1);
        Check.same("paintedCells, cells painted again included", wall.paintedCells(), 52);
        wall.castShadow(0, 13);
        Check.same("paintedCells, cells of a shadow included", wall.paintedCells(), 52 + 35);
        Check.same("erasedCells at first", wall.erasedCells(), 0);
        wall.erase(0, 0, 0, 1);
        wall.erase(0, 1, 0, 1);
        wall.erase(1, 4, 4, 9);
        Check.same("erasedCells, only those with a tone", wall.erasedCells(), 3 + 2);
        wall.removeLayer(0);
        Check.same("erasedCells after removeLayer", wall.erasedCells(), 5);
        Check.same("paintedCells after removeLayer", wall.paintedCells(), 87);
    }
}
