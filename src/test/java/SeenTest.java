import java.util.NoSuchElementException;

/** Promises 18 to 31 and 36 to 38: the flattened wall. */
public final class SeenTest {
    public static void main(String[] arguments) {
        promises18And19BlendModes();
        promises18And19Order();
        promises20And21CoveringLayers();
        promises22And23Tones();
        promises24And25Sums();
        promises24And25Refused();
        promises26To29Areas();
        promises26To29OnAChessboard();
        promise26WindingArea();
        promise30DarkestRow();
        promise31IsMirrored();
        promises36And37MeanAndShare();
        promise38IsConsistent();
        cellsThatAreNotThere();
        Check.end();
    }

    private static void promises18And19BlendModes() {
        String modes = "nmsdla";
        for (int i = 0; i < modes.length(); i++) {
            ShadowWall wall = new ShadowWall();
            wall.addLayer('n');
            wall.addLayer(modes.charAt(i));
            for (int below = 0; below <= 15; below++) {
                wall.paint(0, 5, 4, 5, 4, below);
                for (int tone = 0; tone <= 15; tone++) {
                    wall.paint(1, 5, 4, 5, 4, tone);
                    int[] due = {tone, below * tone / 15, 15 - (15 - below) * (15 - tone) / 15,
                        below < tone ? below : tone, below > tone ? below : tone, (below + tone) / 2};
                    String what = "mode " + modes.charAt(i) + ", " + tone + " over " + below;
                    Check.same(what, wall.seen(5, 4), due[i]);
                    Check.same(what + ", from the top", wall.seenFromTop(5, 4), due[i]);
                }
            }
        }
        ShadowWall wall = Walls.like("9");
        wall.addLayer('s');
        wall.paint(1, 0, 0, 0, 0, 5);
        Check.same("15 minus 60 / 15", wall.seen(0, 0), 11);
        wall.paint(1, 0, 0, 0, 0, 4);
        Check.same("15 minus 66 / 15, rounded down", wall.seen(0, 0), 11);
        Check.same("what has no tone over it", wall.seen(1, 0), 15);
    }

    private static void promises18And19Order() {
        ShadowWall wall = new ShadowWall();
        for (char mode : "mansl".toCharArray()) {
            wall.addLayer(mode);
        }
        int[] tones = {7, 4, 9, 3, 11};
        int[] due = {15, 7, 5, 9, 11, 11};
        for (int layer = 0; layer < 5; layer++) {
            wall.paint(layer, 2, 3, 2, 3, tones[layer]);
            Check.same("seen with layer " + layer, wall.seen(2, 3), due[layer + 1]);
            Check.same("seenFromTop with layer " + layer, wall.seenFromTop(2, 3), due[layer + 1]);
        }
        wall.hide(2);
        Check.same("without the normal one: 15 - (15-5)(15-3)/15 = 7, lightened by 11", wall.seen(2, 3), 11);
        wall.hide(4);
        Check.same("without the lighter one", wall.seen(2, 3), 7);
        Check.same("without the lighter one, from the top", wall.seenFromTop(2, 3), 7);
        wall.moveLayer(0, 1);
        Check.same("(15 + 4) / 2 = 9, times 7 / 15 = 4, screened", wall.seen(2, 3), 7);
        wall.hide(3);
        Check.same("and not screened", wall.seen(2, 3) + " " + wall.seenFromTop(2, 3), "4 4");
    }

    private static void promises20And21CoveringLayers() {
        ShadowWall wall = new ShadowWall();
        for (char mode : "nmsd".toCharArray()) {
            wall.addLayer(mode);
        }
        Class<NoSuchElementException> element = NoSuchElementException.class;
        Check.refuses("topLayer of empty layers", wall, element, () -> wall.topLayer(3, 2));
        Check.same("coveringLayers of empty layers", wall.coveringLayers(3, 2), 0);
        wall.paint(0, 3, 2, 3, 2, 15);
        wall.paint(1, 3, 2, 3, 2, 15);
        wall.paint(3, 3, 2, 3, 2, 0);
        Check.same("topLayer", wall.topLayer(3, 2), 3);
        Check.same("coveringLayers", wall.coveringLayers(3, 2), 3);
        wall.hide(3);
        Check.same("topLayer below a hidden one", wall.topLayer(3, 2), 1);
        Check.same("coveringLayers without a hidden one", wall.coveringLayers(3, 2), 2);
        wall.hide(1);
        Check.same("topLayer is the lowest", wall.topLayer(3, 2), 0);
        wall.hide(0);
        Check.refuses("topLayer of hidden ones", wall, element, () -> wall.topLayer(3, 2));
        Check.same("coveringLayers of hidden ones", wall.coveringLayers(3, 2), 0);
        wall.show(0);
        Check.refuses("topLayer of the cell beside it", wall, element, () -> wall.topLayer(2, 3));
    }

    private static void promises22And23Tones() {
        ShadowWall wall = Walls.like("01234567", "00112233", "........", "44444444", "44444444");
        Check.same("cellsWithTone 0", wall.cellsWithTone(0), 3);
        Check.same("cellsWithTone 4", wall.cellsWithTone(4), 17);
        Check.same("cellsWithTone 8", wall.cellsWithTone(8), 0);
        Check.same("cellsWithTone of the wall itself", wall.cellsWithTone(15), 16);
        Check.same("commonestTone", wall.commonestTone(), 4);
        wall.paint(0, 4, 0, 4, 0, 9);
        Check.same("16 cells with either: the darker one", wall.commonestTone(), 4);
        wall.paint(0, 0, 3, 0, 3, 9);
        Check.same("15 cells are less than 16", wall.commonestTone(), 15);
        wall.hide(0);
        Check.same("a hidden layer", wall.cellsWithTone(15) + " " + wall.commonestTone(), "48 15");
        ShadowWall black = Walls.like("00000000", "00000000", "00000000");
        Check.same("24 black and 24 white cells", black.commonestTone(), 0);
        for (int tone : new int[] {-1, 16, Integer.MIN_VALUE, Integer.MAX_VALUE}) {
            Check.refuses("cellsWithTone " + tone, wall, IllegalArgumentException.class,
                    () -> wall.cellsWithTone(tone));
        }
    }

    private static void promises24And25Sums() {
        ShadowWall wall = Walls.like("12345678", "23456789", "3456789a", "456789ab", "56789abc", "6789abcd");
        Check.same("the whole wall", sums(wall, 0, 0, 7, 5), "336 336");
        Check.same("the upper left cell", sums(wall, 0, 0, 0, 0), "1 1");
        Check.same("the lower right cell", sums(wall, 7, 5, 7, 5), "13 13");
        Check.same("a part in the middle", sums(wall, 2, 1, 3, 3), "33 33");
        Check.same("a row", sums(wall, 0, 2, 7, 2), "52 52");
        Check.same("a column", sums(wall, 7, 0, 7, 5), "63 63");
        wall.addLayer('m');
        wall.paint(1, 2, 1, 2, 1, 0);
        Check.same("another table after a change", sums(wall, 2, 1, 3, 3), "29 29");
    }

    private static String sums(ShadowWall wall, int left, int upper, int right, int lower) {
        return wall.sumOfTones(left, upper, right, lower) + " " + wall.sumOfTonesByTable(left, upper, right, lower);
    }

    private static void promises24And25Refused() {
        ShadowWall wall = Walls.like("123");
        Class<IndexOutOfBoundsException> index = IndexOutOfBoundsException.class;
        Class<IllegalArgumentException> argument = IllegalArgumentException.class;
        for (int x : Walls.NO_COLUMNS) {
            Check.refuses("sum left " + x, wall, index, () -> wall.sumOfTones(x, 0, 7, 0));
            Check.refuses("sum right " + x, wall, index, () -> wall.sumOfTones(0, 1, x, 0));
            Check.refuses("table left " + x, wall, index, () -> wall.sumOfTonesByTable(x, 0, 7, 0));
            Check.refuses("table right " + x, wall, index, () -> wall.sumOfTonesByTable(0, 1, x, 0));
        }
        for (int y : Walls.NO_ROWS) {
            Check.refuses("sum upper " + y, wall, index, () -> wall.sumOfTones(0, y, 1, 5));
            Check.refuses("sum lower " + y, wall, index, () -> wall.sumOfTones(1, 0, 0, y));
            Check.refuses("table upper " + y, wall, index, () -> wall.sumOfTonesByTable(0, y, 1, 5));
            Check.refuses("table lower " + y, wall, index, () -> wall.sumOfTonesByTable(1, 0, 0, y));
        }
        Check.refuses("sum of reversed columns", wall, argument, () -> wall.sumOfTones(4, 0, 3, 1));
        Check.refuses("sum of reversed rows", wall, argument, () -> wall.sumOfTones(3, 1, 4, 0));
        Check.refuses("table of reversed columns", wall, argument, () -> wall.sumOfTonesByTable(4, 0, 3, 1));
        Check.refuses("table of reversed rows", wall, argument, () -> wall.sumOfTonesByTable(3, 1, 4, 0));
    }

    private static void promises26To29Areas() {
        ShadowWall empty = new ShadowWall();
        Check.same("areas of an empty wall", areas(empty), "1 1 48");
        ShadowWall wall = Walls.like("00112222", "01112002", "11..2002", "1.ff2222", "........", "1......1");
        Check.same("areaSize in a corner", wall.areaSize(0, 0), 3);
        Check.same("areaSize in the same corner again", wall.areaSize(0, 0), 3);
        Check.same("areaSize of another cell of it", wall.areaSize(1, 0), 3);
        Check.same("areaSize of a stair", wall.areaSize(0, 3), 8);
        Check.same("areaSize of a ring", wall.areaSize(7, 2), 12);
        Check.same("areaSize in the ring", wall.areaSize(6, 1), 4);
        Check.same("painted like the wall itself", wall.areaSize(3, 2), 19);
        Check.same("the same tone, but not connected", wall.areaSize(0, 5), 1);
        Check.same("nor in the other corner", wall.areaSize(7, 5), 1);
        Check.same("areas", areas(wall), "7 7 19");
        wall.hide(0);
        Check.same("areas without the layer", areas(wall), "1 1 48");
    }

    private static String areas(ShadowWall wall) {
        return wall.areaCount() + " " + wall.areaCountByJoining() + " " + wall.largestArea();
    }

    private static void promises26To29OnAChessboard() {
        ShadowWall wall = Walls.like("01010101", "10101010", "01010101", "10101010", "01010101", "10101010");
        Check.same("neither aslant nor from the end of a row to the next one", areas(wall), "48 48 1");
        ShadowWall rows = Walls.like("00000000", "11111111", "00000000", "11111111", "00000000", "11111111");
        Check.same("areas of rows", areas(rows), "6 6 8");
        ShadowWall columns = Walls.like("01010101", "01010101", "01010101", "01010101", "01010101", "01010101");
        Check.same("areas of columns", areas(columns), "8 8 6");
        Check.same("two ends that are joined from below", areas(Walls.like("01011111", "00011111")), "4 4 32");
    }

    private static void promise26WindingArea() {
        ShadowWall wall = Walls.like("00000000", "11111110", "00000010", "01111010", "01000010", "01111110");
        Check.same("the outer one", wall.areaSize(0, 0), 13);
        Check.same("the inner one from its end", wall.areaSize(2, 4), 14);
        Check.same("the one between them", wall.areaSize(1, 3), 21);
        Check.same("areas of the three", areas(wall), "3 3 21");
    }

    private static void promise30DarkestRow() {
        Check.same("all rows the same", new ShadowWall().darkestRow(), 0);
        for (int y = 0; y < 6; y++) {
            ShadowWall one = new ShadowWall();
            one.addLayer('n');
            one.paint(0, 7, y, 7, y, 14);
            Check.same("the only row that is darker", one.darkestRow(), y);
        }
        ShadowWall wall = Walls.like("........", ".......e", "........", "0.......", "7.......", "71......");
        Check.same("the lowest row", wall.darkestRow(), 5);
        wall.paint(0, 1, 5, 1, 5, 8);
        Check.same("of two with 105, the upper one", wall.darkestRow(), 3);
        wall.paint(0, 0, 3, 0, 3, 1);
        wall.paint(0, 1, 4, 1, 4, 8);
        Check.same("of rows 4 and 5", wall.darkestRow(), 4);
        wall.paint(0, 0, 0, 7, 0, 12);
        Check.same("the upper row", wall.darkestRow(), 0);
    }

    private static void promise31IsMirrored() {
        Check.same("an empty wall", new ShadowWall().isMirrored(), true);
        ShadowWall wall = Walls.like("12344321", "........", "0......0", "...99...", "........", "ff5ff5ff");
        Check.same("mirrored", wall.isMirrored(), true);
        for (int x = 0; x < 8; x++) {
            for (int y = 0; y < 6; y++) {
                wall.paint(0, x, y, x, y, 6);
                Check.same("not mirrored at " + x + ", " + y, wall.isMirrored(), false);
                wall.undo();
            }
        }
        Check.same("mirrored again", wall.isMirrored(), true);
        wall.addLayer('n');
        wall.paint(1, 0, 0, 0, 0, 15);
        wall.hide(1);
        Check.same("a hidden layer", wall.isMirrored(), true);
    }

    private static void promises36And37MeanAndShare() {
        ShadowWall wall = new ShadowWall();
        Check.same("meanTone of an empty wall", wall.meanTone(), 15.0);
        Check.same("coveredShare of an empty wall", wall.coveredShare(), 0.0f);
        wall.addLayer('n');
        wall.addLayer('l');
        wall.paint(0, 0, 0, 0, 0, 14);
        Check.same("meanTone", wall.meanTone(), 719 / 48.0);
        Check.same("coveredShare", wall.coveredShare(), 1 / 48.0f);
        wall.paint(1, 0, 0, 4, 1, 15);
        Check.same("a cell that two layers cover counts once", wall.coveredShare(), 10 / 48.0f);
        Check.same("meanTone of the lightened wall", wall.meanTone(), 15.0);
        wall.hide(1);
        Check.same("hidden layers do not cover", wall.coveredShare(), 1 / 48.0f);
        wall.paint(0, 0, 0, 7, 5, 0);
        Check.same("all black", wall.meanTone(), 0.0);
        Check.same("all covered", wall.coveredShare(), 1.0f);
    }

    private static void promise38IsConsistent() {
        ShadowWall wall = new ShadowWall();
        Check.same("an empty wall", wall.isConsistent(), true);
        String modes = "anmsdl";
        for (int i = 0; i < 6; i++) {
            wall.addLayer(modes.charAt(i));
            wall.paint(i, i, i % 3, 7, 3 + i % 3, 3 * i % 16);
            Check.same("with " + (i + 1) + " layers", wall.isConsistent(), true);
        }
        String before = Picture.of(wall);
        wall.hide(1);
        Check.same("with a hidden one", wall.isConsistent(), true);
        wall.undo();
        Check.same("it changes nothing", Picture.of(wall).replace("undo 7", "undo 8"), before);
    }

    private static void cellsThatAreNotThere() {
        ShadowWall wall = Walls.like("123");
        for (int x : Walls.NO_COLUMNS) {
            cellIsNotThere(wall, x, 0);
            cellIsNotThere(wall, x, 5);
        }
        for (int y : Walls.NO_ROWS) {
            cellIsNotThere(wall, 0, y);
            cellIsNotThere(wall, 7, y);
        }
    }

    private static void cellIsNotThere(ShadowWall wall, int x, int y) {
        String where = " at " + x + ", " + y;
        Class<IndexOutOfBoundsException> index = IndexOutOfBoundsException.class;
        Check.refuses("seen" + where, wall, index, () -> wall.seen(x, y));
        Check.refuses("seenFromTop" + where, wall, index, () -> wall.seenFromTop(x, y));
        Check.refuses("topLayer" + where, wall, index, () -> wall.topLayer(x, y));
        Check.refuses("coveringLayers" + where, wall, index, () -> wall.coveringLayers(x, y));
        Check.refuses("areaSize" + where, wall, index, () -> wall.areaSize(x, y));
    }
}
