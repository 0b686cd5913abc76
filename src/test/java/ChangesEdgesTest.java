import java.util.ArrayList;
import java.util.List;

/** The edges that the sentences of promises 1 to 10 name, a test each; what they refuse is in RefusalTest. */
public final class ChangesEdgesTest {
    public static void main(String[] arguments) {
        promise1WithoutLayers();
        promise2OnTop();
        promise2EachMode();
        promise3Decrease();
        promise3Afterwards();
        promise4LeftAndRight();
        promise4UpperAndLower();
        promise4Included();
        promise4Tone();
        promise4Before();
        promise4OfALayer();
        promise5Column();
        promise5Row();
        promise5Radius();
        promise5Before();
        promise5OfALayer();
        promise6Afterwards();
        promise7Afterwards();
        promises6And7KeepTheTones();
        promise8AnotherPosition();
        promise8ItsOwnPosition();
        promise8HowManyChange();
        promise9WhereverTheUpperHasATone();
        promise9Removed();
        promise9HowManyCells();
        promise9SumsStay();
        promise10Visible();
        promise10HowManyCells();
        promise10Hour();
        promise10OfAShadow();
        Check.end();
    }

    /** The cells of one layer, row after row. */
    private static String cells(ShadowWall wall, int layer) {
        return Picture.layers(wall).split("\n")[layer + 1].substring(3).trim();
    }

    /** "Creates a wall without layers": two of them share nothing. */
    private static void promise1WithoutLayers() {
        ShadowWall other = Walls.like("1");
        other.save();
        ShadowWall wall = new ShadowWall();
        Check.same("layers", wall.layerCount() + " " + wall.visibleCount(), "0 0");
        Check.same("sums", wall.paintedCells() + " " + wall.erasedCells() + " " + wall.undoCount(), "0 0 0");
        Check.same("output", wall.writeLayers() + Picture.output(wall), "0");
        Check.same("input buffer", wall.feed('x'), 1);
        Check.same("the other one", other.layerCount() + " " + other.painted(0) + " " + other.undoCount(), "1 1 2");
    }

    /** "Adds a layer on top." "Returns its position." */
    private static void promise2OnTop() {
        ShadowWall wall = new ShadowWall();
        for (int position = 0; position < 6; position++) {
            Check.same("position", wall.addLayer("nmsdla".charAt(position)), position);
            Check.same("those below stay", Walls.modes(wall), "nmsdla".substring(0, position + 1));
        }
    }

    /** "the blend mode: 'n', 'm', 's', 'd', 'l' or 'a'": of all characters. */
    private static void promise2EachMode() {
        StringBuilder taken = new StringBuilder();
        for (char mode = 0; mode < Character.MAX_VALUE; mode++) {
            try {
                new ShadowWall().addLayer(mode);
                taken.append(mode);
            } catch (IllegalArgumentException none) {
                continue;
            }
        }
        Check.same("modes", taken.toString(), "adlmns");
    }

    /** "The positions of the layers above it decrease by 1." */
    private static void promise3Decrease() {
        String[] due = {"msdla", "nsdla", "nmdla", "nmsla", "nmsda", "nmsdl"};
        for (int layer = 0; layer < 6; layer++) {
            ShadowWall wall = Walls.with("nmsdla");
            for (int i = 0; i < 6; i++) {
                wall.paint(i, i, 0, i, 0, i);
            }
            wall.removeLayer(layer);
            Check.same("modes", Walls.modes(wall), due[layer]);
            for (int i = 0; i < 5; i++) {
                int earlier = i < layer ? i : i + 1;
                Check.same("tones", wall.tone(i, earlier, 0), earlier);
            }
        }
    }

    /** "Returns the number of layers afterwards.": from 5 to 0. */
    private static void promise3Afterwards() {
        ShadowWall wall = Walls.with("nmsdla");
        for (int left = 5; left >= 0; left--) {
            Check.same("removeLayer", wall.removeLayer(0), left);
            Check.same("layerCount", wall.layerCount(), left);
        }
    }

    /** "the left column, 0 to 7"; "the right column, included" */
    private static void promise4LeftAndRight() {
        for (int left = 0; left < 8; left++) {
            for (int right = left; right < 8; right++) {
                ShadowWall wall = Walls.with("n");
                Check.same("paint", wall.paint(0, left, 2, right, 2, 1), right - left + 1);
                Check.same("its row", cells(wall, 0).split(" ")[2],
                        ".".repeat(left) + "1".repeat(right - left + 1) + ".".repeat(7 - right));
            }
        }
    }

    /** "the upper row, 0 to 5"; "the lower row, included" */
    private static void promise4UpperAndLower() {
        for (int upper = 0; upper < 6; upper++) {
            for (int lower = upper; lower < 6; lower++) {
                ShadowWall wall = Walls.with("n");
                Check.same("paint", wall.paint(0, 3, upper, 3, lower, 1), lower - upper + 1);
                for (int y = 0; y < 6; y++) {
                    Check.same("its column", wall.hasTone(0, 3, y), y >= upper && y <= lower);
                }
            }
        }
    }

    /** "Paints all cells of a rectangle": from one cell to all. */
    private static void promise4Included() {
        ShadowWall wall = Walls.with("n");
        Check.same("one cell", wall.paint(0, 7, 5, 7, 5, 1), 1);
        Check.same("two rows", wall.paint(0, 0, 0, 7, 1, 2), 16);
        Check.same("two columns", wall.paint(0, 0, 0, 1, 5, 3), 8);
        Check.same("what is painted", cells(wall, 0), "33222222 33222222 33...... 33...... 33...... 33.....1");
        Check.same("the whole wall", wall.paint(0, 0, 0, 7, 5, 4), 48 - 25);
        Check.same("what is painted", cells(wall, 0).replace(" ", ""), "4".repeat(48));
    }

    /** "the tone, 0 to 15" */
    private static void promise4Tone() {
        ShadowWall wall = Walls.with("n");
        for (int tone = 0; tone <= 15; tone++) {
            Check.same("paint", wall.paint(0, 1, 1, 1, 1, tone), tone == 0 ? 1 : 0);
            Check.same("tone", wall.tone(0, 1, 1), tone);
        }
    }

    /** "Returns the number of cells in which the layer had nothing before." */
    private static void promise4Before() {
        ShadowWall wall = Walls.with("n");
        Check.same("all had nothing", wall.paint(0, 0, 0, 7, 5, 0), 48);
        Check.same("none had nothing", wall.paint(0, 0, 0, 7, 5, 0), 0);
        wall.erase(0, 7, 5, 0);
        Check.same("one had nothing again", wall.paint(0, 0, 0, 7, 5, 1), 1);
        Check.same("paintedCells counts them all", wall.paintedCells(), 3 * 48);
    }

    /** "of a layer": no other one. */
    private static void promise4OfALayer() {
        ShadowWall wall = Walls.with("nmsdla");
        for (int layer = 0; layer < 6; layer++) {
            Check.same("what the layers below have does not count", wall.paint(layer, 0, 0, 7, 5, layer), 48);
        }
        for (int layer = 0; layer < 6; layer++) {
            Check.same("each has its own tone", wall.tone(layer, 4, 4), layer);
        }
    }

    /** "the column, 0 to 7" */
    private static void promise5Column() {
        ShadowWall wall = Walls.like("11111111", "11111111");
        for (int x = 0; x < 8; x++) {
            Check.same("erase", wall.erase(0, x, 0, 0), 1);
            Check.same("its cell", wall.hasTone(0, x, 0), false);
        }
        Check.same("what is left", wall.painted(0), 8);
    }

    /** "the row, 0 to 5" */
    private static void promise5Row() {
        ShadowWall wall = Walls.with("n");
        wall.paint(0, 0, 0, 7, 5, 1);
        for (int y = 0; y < 6; y++) {
            Check.same("erase", wall.erase(0, 4, y, 0), 1);
            Check.same("its cell", wall.hasTone(0, 4, y), false);
        }
        Check.same("what is left", wall.painted(0), 42);
    }

    /** "the radius, 0 to 9" */
    private static void promise5Radius() {
        int[] due = {1, 3, 6, 11, 17, 26, 34, 40, 46, 48};
        for (int radius = 0; radius <= 9; radius++) {
            ShadowWall wall = Walls.with("n");
            wall.paint(0, 0, 0, 7, 5, 1);
            Check.same("radius " + radius, wall.erase(0, 0, 0, radius), due[radius]);
        }
    }

    /** "Returns the number of cells in which the layer had a tone before." */
    private static void promise5Before() {
        ShadowWall wall = Walls.with("n");
        Check.same("of an empty layer", wall.erase(0, 3, 3, 9), 0);
        wall.paint(0, 7, 5, 7, 5, 0);
        Check.same("of one cell", wall.erase(0, 7, 5, 9), 1);
        Check.same("of none any more", wall.erase(0, 7, 5, 9), 0);
        wall.paint(0, 0, 0, 7, 5, 0);
        Check.same("of all", wall.erase(0, 3, 3, 9), 48);
        Check.same("erasedCells", wall.erasedCells(), 49);
    }

    /** "Erases what a layer has": no other one. */
    private static void promise5OfALayer() {
        ShadowWall wall = Walls.with("nmsdla");
        for (int layer = 0; layer < 6; layer++) {
            wall.paint(layer, 0, 0, 7, 5, 1);
        }
        wall.erase(3, 4, 2, 9);
        for (int layer = 0; layer < 6; layer++) {
            Check.same("painted", wall.painted(layer), layer == 3 ? 0 : 48);
        }
    }

    /** "Hides a layer." "Returns the number of visible layers afterwards.": from 5 to 0. */
    private static void promise6Afterwards() {
        ShadowWall wall = Walls.with("nmsdla");
        for (int layer = 0; layer < 6; layer++) {
            Check.same("hide", wall.hide(layer), 5 - layer);
            Check.same("isVisible", wall.isVisible(layer), false);
        }
    }

    /** "Makes a layer visible." "Returns the number of visible layers afterwards.": from 1 to 6. */
    private static void promise7Afterwards() {
        ShadowWall wall = Walls.with("nmsdla");
        for (int layer = 0; layer < 6; layer++) {
            wall.hide(layer);
        }
        for (int layer = 5; layer >= 0; layer--) {
            Check.same("show", wall.show(layer), 6 - layer);
            Check.same("isVisible", wall.isVisible(layer), true);
        }
    }

    private static void promises6And7KeepTheTones() {
        ShadowWall wall = Walls.like("0f7");
        wall.hide(0);
        Check.same("hidden", cells(wall, 0).substring(0, 8) + wall.seen(0, 0), "0f7.....15");
        wall.show(0);
        Check.same("shown", cells(wall, 0).substring(0, 8) + wall.seen(0, 0), "0f7.....0");
    }

    /** "Takes a layer out and puts it back so that it has another position": from each position to each. */
    private static void promise8AnotherPosition() {
        for (int from = 0; from < 6; from++) {
            for (int to = 0; to < 6; to++) {
                ShadowWall wall = Walls.with("nmsdla");
                List<Character> due = new ArrayList<>(List.of('n', 'm', 's', 'd', 'l', 'a'));
                due.add(to, due.remove(from));
                wall.paint(from, 2, 2, 2, 2, 9);
                wall.hide(from);
                wall.moveLayer(from, to);
                Check.same("from " + from + " to " + to, Walls.modes(wall),
                        due.toString().replaceAll("[^a-z]", ""));
                Check.same("it keeps what it has", wall.isVisible(to) + " " + wall.painted(to), "false 1");
            }
        }
    }

    /** "its new position, from 0 to the number of layers minus 1": the same is one of them. */
    private static void promise8ItsOwnPosition() {
        ShadowWall one = Walls.like("123");
        Check.same("the only layer", one.moveLayer(0, 0), 0);
        Check.refuses("the number of layers", one, IndexOutOfBoundsException.class, () -> one.moveLayer(0, 1));
        ShadowWall wall = Walls.with("nms");
        for (int layer = 0; layer < 3; layer++) {
            wall.paint(layer, 0, 0, 7, 5, 2 * layer);
            Check.same("its own", wall.moveLayer(layer, layer), 0);
        }
        Check.refuses("the number of layers", wall, IndexOutOfBoundsException.class, () -> wall.moveLayer(0, 3));
    }

    /** "Returns how many cells of the flattened wall change.": from none to all. */
    private static void promise8HowManyChange() {
        ShadowWall wall = Walls.with("nn");
        Check.same("empty layers", wall.moveLayer(0, 1), 0);
        wall.paint(0, 0, 0, 7, 5, 4);
        wall.paint(1, 0, 0, 7, 5, 5);
        Check.same("all", wall.moveLayer(0, 1), 48);
        wall.paint(1, 0, 0, 7, 5, 5);
        Check.same("the same tones", wall.moveLayer(0, 1), 0);
        wall.paint(0, 0, 0, 0, 0, 4);
        wall.paint(1, 7, 5, 7, 5, 4);
        Check.same("the first and the last cell", wall.moveLayer(1, 0), 2);
        wall.hide(0);
        Check.same("a hidden one", wall.moveLayer(1, 0), 0);
        ShadowWall alike = Walls.with("mm");
        alike.paint(0, 0, 0, 7, 5, 4);
        alike.paint(1, 0, 0, 7, 5, 15);
        Check.same("other tones below, but the same seen", alike.moveLayer(0, 1), 0);
    }

    /** "which gets the tones of the upper one wherever the upper one has a tone" */
    private static void promise9WhereverTheUpperHasATone() {
        ShadowWall wall = Walls.like("f0f0....");
        wall.addLayer('n');
        wall.paint(1, 0, 0, 1, 0, 0);
        wall.paint(1, 4, 0, 5, 0, 15);
        wall.mergeDown(1);
        Check.same("black and white hold, nothing does not", cells(wall, 0).substring(0, 8), "00f0ff..");
        ShadowWall empty = Walls.like("12");
        empty.addLayer('n');
        empty.mergeDown(1);
        Check.same("an empty upper one", cells(empty, 0).substring(0, 8), "12......");
    }

    /** "The upper layer is removed." */
    private static void promise9Removed() {
        ShadowWall low = Walls.with("nnmsdl");
        low.mergeDown(1);
        Check.same("at the bottom", Walls.modes(low), "nmsdl");
        ShadowWall high = Walls.with("msdlnn");
        high.mergeDown(5);
        Check.same("at the top", Walls.modes(high), "msdln");
        ShadowWall middle = Walls.with("mnnsn");
        middle.hide(3);
        middle.mergeDown(2);
        Check.same("in the middle", Walls.modes(middle) + middle.isVisible(1) + middle.isVisible(2), "mnsntruefalse");
    }

    /** "Returns the number of cells in which the merged layer has a tone.": from 0 to 48. */
    private static void promise9HowManyCells() {
        Check.same("none", Walls.with("nn").mergeDown(1), 0);
        ShadowWall wall = Walls.with("nn");
        wall.paint(0, 0, 0, 7, 2, 0);
        wall.paint(1, 0, 3, 7, 5, 0);
        Check.same("all, half of each", wall.mergeDown(1), 48);
        ShadowWall same = Walls.with("nn");
        same.paint(0, 3, 3, 3, 3, 0);
        same.paint(1, 3, 3, 3, 3, 0);
        Check.same("one that both have", same.mergeDown(1), 1);
    }

    private static void promise9SumsStay() {
        ShadowWall wall = Walls.with("nn");
        wall.paint(0, 0, 0, 3, 0, 1);
        wall.paint(1, 2, 0, 5, 0, 2);
        wall.mergeDown(1);
        Check.same("paintedCells and erasedCells", wall.paintedCells() + " " + wall.erasedCells(), "8 0");
    }

    /** "whether the layer is visible or not" */
    private static void promise10Visible() {
        ShadowWall wall = Walls.like("12");
        Check.same("of a visible one", wall.castShadow(0, 12), 2);
        wall.hide(0);
        Check.same("of a hidden one", wall.castShadow(0, 12), 2);
        Check.same("the shadows are visible", wall.isVisible(1) + " " + wall.isVisible(2), "true true");
        Check.same("the layer stays as it is", wall.isVisible(0) + cells(wall, 0).substring(0, 8), "false12......");
    }

    /** "Returns the number of cells in which the shadow has a tone.": from none to 40. */
    private static void promise10HowManyCells() {
        ShadowWall wall = Walls.with("l");
        Check.same("of nothing", wall.castShadow(0, 12), 0);
        wall.paint(0, 0, 0, 7, 5, 0);
        Check.same("of all", wall.castShadow(0, 12), 40);
        Check.same("all but the upper row", cells(wall, 2), "........ 88888888 88888888 88888888 88888888 88888888");
        Check.same("paintedCells", wall.paintedCells(), 48 + 40);
    }

    /** "the hour, 6 to 18" */
    private static void promise10Hour() {
        String[] due = {"88......", "888.....", "8888....", "88888...", "888888..", "8888888.", "88888888", ".8888888",
            "..888888", "...88888", "....8888", ".....888", "......88"};
        for (int hour = 6; hour <= 18; hour++) {
            ShadowWall wall = Walls.like("77777777");
            wall.castShadow(0, hour);
            Check.same("at " + hour, cells(wall, 1), "........ " + due[hour - 6] + " ........".repeat(4));
        }
    }

    /** "the shadow of a layer" is a layer too, and the layer may be any of them. */
    private static void promise10OfAShadow() {
        ShadowWall wall = Walls.like("7");
        for (int layer = 0; layer < 5; layer++) {
            Check.same("of the one on top", wall.castShadow(layer, 13), 1);
            Check.same("where it is", wall.tone(layer + 1, layer + 1, layer + 1), 8);
        }
        Check.same("layers", Walls.modes(wall), "nmmmmm");
    }
}
