import java.util.NoSuchElementException;

/** The edges that the sentences of promises 11 to 38 name, a test each; what they refuse is in RefusalTest. */
public final class QuestionsEdgesTest {
    private static final String[] BLACK = {"00000000", "00000000", "00000000", "00000000", "00000000", "00000000"};

    public static void main(String[] arguments) {
        promise11FromNoneToSix();
        promise12ModeOfEach();
        promise13VisibleOfEach();
        promise14EachCell();
        promise15Extremes();
        promise16FromNoneToAll();
        promise17FromNoneToSix();
        promises18And19EachCell();
        promise19NoNormalLayer();
        promise19HiddenNormalLayer();
        promise19NormalLayerWithoutATone();
        promise19SeveralNormalLayers();
        promise20EachPosition();
        promise20HiddenOnTop();
        promise21FromNoneToSix();
        promise22FromNoneToAll();
        promise22FirstAndLastTone();
        promise23OfSeveralTheDarkest();
        promise23OneCellMore();
        promises24And25OneCell();
        promises24And25LeastAndGreatest();
        promises24And25EachRectangle();
        promise26FromOneToAll();
        promises27And28FromOneToAll();
        promise28JoinedAgain();
        promise29FromOneToAll();
        promise30OfSeveralTheUpper();
        promise30EachRow();
        promise31OuterAndInnerColumns();
        promise32FromNoneToAll();
        promise32TheSameLayer();
        promise33AllTheSame();
        promise33Descending();
        promise33FirstAndLastRank();
        promise34PaintedAgain();
        promise34ShadowsIncluded();
        promise35OnlyWithATone();
        promises34And35Back();
        promise36FromBlackToWhite();
        promise37FromNoneToAll();
        promise38AlwaysTrue();
        questionsChangeNothing();
        Check.end();
    }

    /** "Returns the number, 0 to 6." */
    private static void promise11FromNoneToSix() {
        for (int count = 0; count <= 6; count++) {
            Check.same("layerCount", Walls.with("nmsdla".substring(0, count)).layerCount(), count);
        }
        ShadowWall wall = Walls.with("nn");
        wall.hide(0);
        Check.same("hidden ones count", wall.layerCount(), 2);
    }

    private static void promise12ModeOfEach() {
        ShadowWall wall = Walls.with("nmsdla");
        for (int layer = 0; layer < 6; layer++) {
            Check.same("mode", wall.mode(layer), "nmsdla".charAt(layer));
        }
        Check.same("it has one character for several layers too", Walls.with("ss").mode(1), 's');
    }

    private static void promise13VisibleOfEach() {
        for (int hidden = 0; hidden < 6; hidden++) {
            ShadowWall wall = Walls.with("nmsdla");
            wall.hide(hidden);
            for (int layer = 0; layer < 6; layer++) {
                Check.same("isVisible", wall.isVisible(layer), layer != hidden);
            }
        }
    }

    /** "the column, 0 to 7"; "the row, 0 to 5" */
    private static void promise14EachCell() {
        for (int painted = 0; painted < 48; painted++) {
            ShadowWall wall = Walls.with("nm");
            wall.paint(1, painted % 8, painted / 8, painted % 8, painted / 8, 0);
            for (int cell = 0; cell < 48; cell++) {
                Check.same("hasTone", wall.hasTone(1, cell % 8, cell / 8), cell == painted);
                Check.same("hasTone of the other layer", wall.hasTone(0, cell % 8, cell / 8), false);
            }
        }
    }

    /** "Returns the tone of a layer in a cell.": not the one that is seen. */
    private static void promise15Extremes() {
        ShadowWall wall = Walls.with("nm");
        wall.paint(0, 0, 0, 7, 5, 0);
        wall.paint(1, 0, 0, 7, 5, 15);
        wall.hide(1);
        Check.same("the first and the last cell", wall.tone(0, 0, 0) + " " + wall.tone(0, 7, 5), "0 0");
        Check.same("of a hidden layer", wall.tone(1, 0, 0) + " " + wall.tone(1, 7, 5), "15 15");
        wall.erase(0, 7, 5, 0);
        Check.refuses("erased", wall, NoSuchElementException.class, () -> wall.tone(0, 7, 5));
    }

    private static void promise16FromNoneToAll() {
        ShadowWall wall = Walls.with("nm");
        Check.same("none", wall.painted(0), 0);
        wall.paint(0, 0, 0, 7, 5, 0);
        Check.same("all", wall.painted(0) + " " + wall.painted(1), "48 0");
        wall.hide(0);
        wall.erase(0, 0, 0, 0);
        Check.same("of a hidden one", wall.painted(0), 47);
    }

    private static void promise17FromNoneToSix() {
        Check.same("without layers", new ShadowWall().visibleCount(), 0);
        ShadowWall wall = Walls.with("nmsdla");
        Check.same("all", wall.visibleCount(), 6);
        wall.removeLayer(5);
        wall.hide(0);
        Check.same("without a removed and a hidden one", wall.visibleCount(), 4);
        wall.removeLayer(0);
        Check.same("without the hidden one", wall.visibleCount(), 4);
        wall.castShadow(0, 12);
        Check.same("with a shadow", wall.visibleCount(), 5);
    }

    private static void promises18And19EachCell() {
        ShadowWall wall = Walls.like("01234567", "89abcdef", "........", "fedcba98", "76543210", "00000000");
        for (int x = 0; x < 8; x++) {
            Check.same("row 0", wall.seen(x, 0) + " " + wall.seenFromTop(x, 0), x + " " + x);
            Check.same("row 1", wall.seen(x, 1) + " " + wall.seenFromTop(x, 1), (x + 8) + " " + (x + 8));
            Check.same("row 2", wall.seen(x, 2) + " " + wall.seenFromTop(x, 2), "15 15");
            Check.same("row 3", wall.seen(x, 3) + " " + wall.seenFromTop(x, 3), (15 - x) + " " + (15 - x));
            Check.same("row 4", wall.seen(x, 4) + " " + wall.seenFromTop(x, 4), (7 - x) + " " + (7 - x));
            Check.same("row 5", wall.seen(x, 5) + " " + wall.seenFromTop(x, 5), "0 0");
        }
    }

    /** "the uppermost visible layer with the mode 'n'": there may be none, then the wall itself is below. */
    private static void promise19NoNormalLayer() {
        ShadowWall wall = Walls.with("mad");
        wall.paint(0, 2, 2, 2, 2, 6);
        wall.paint(1, 2, 2, 2, 2, 11);
        wall.paint(2, 2, 2, 2, 2, 9);
        Check.same("15 m 6 = 6, a 11 = 8, d 9 = 8", wall.seenFromTop(2, 2), 8);
    }

    /** "visible" */
    private static void promise19HiddenNormalLayer() {
        ShadowWall wall = Walls.with("nmnm");
        int[] tones = {12, 10, 3, 9};
        for (int layer = 0; layer < 4; layer++) {
            wall.paint(layer, 2, 2, 2, 2, tones[layer]);
        }
        Check.same("3 m 9 = 1", wall.seenFromTop(2, 2), 1);
        wall.hide(2);
        Check.same("12 m 10 = 8, m 9 = 4", wall.seenFromTop(2, 2), 4);
    }

    /** "that has a tone in the cell" */
    private static void promise19NormalLayerWithoutATone() {
        ShadowWall wall = Walls.with("nmn");
        wall.paint(0, 2, 2, 2, 2, 12);
        wall.paint(1, 2, 2, 2, 2, 10);
        wall.paint(2, 3, 2, 3, 2, 1);
        Check.same("12 m 10 = 8", wall.seenFromTop(2, 2), 8);
    }

    /** "the uppermost" */
    private static void promise19SeveralNormalLayers() {
        ShadowWall wall = Walls.with("nnnnnn");
        for (int layer = 0; layer < 6; layer++) {
            wall.paint(layer, layer, 0, 7, 0, layer + 1);
        }
        for (int x = 0; x < 8; x++) {
            Check.same("seenFromTop", wall.seenFromTop(x, 0), Math.min(x, 5) + 1);
        }
    }

    private static void promise20EachPosition() {
        ShadowWall wall = Walls.with("nmsdla");
        for (int layer = 0; layer < 6; layer++) {
            wall.paint(layer, 7, 5, 7, 5, 15);
            Check.same("topLayer", wall.topLayer(7, 5), layer);
        }
    }

    /** "the uppermost visible layer that has a tone in a cell" */
    private static void promise20HiddenOnTop() {
        ShadowWall wall = Walls.with("nmsdla");
        for (int layer = 0; layer < 5; layer++) {
            wall.paint(layer, 0, 0, 0, 0, 0);
        }
        Check.same("without the one on top, which has no tone", wall.topLayer(0, 0), 4);
        for (int layer = 4; layer > 0; layer--) {
            wall.hide(layer);
            Check.same("without hidden ones", wall.topLayer(0, 0), layer - 1);
        }
        wall.hide(0);
        Check.refuses("none", wall, NoSuchElementException.class, () -> wall.topLayer(0, 0));
    }

    private static void promise21FromNoneToSix() {
        ShadowWall wall = Walls.with("nmsdla");
        Check.same("none", wall.coveringLayers(7, 5), 0);
        for (int layer = 0; layer < 6; layer++) {
            wall.paint(layer, 7, 5, 7, 5, 0);
            Check.same("coveringLayers", wall.coveringLayers(7, 5), layer + 1);
        }
        wall.hide(0);
        wall.hide(5);
        Check.same("hidden ones do not cover", wall.coveringLayers(7, 5), 4);
        Check.same("without layers", new ShadowWall().coveringLayers(0, 0), 0);
    }

    private static void promise22FromNoneToAll() {
        ShadowWall wall = new ShadowWall();
        for (int tone = 0; tone < 15; tone++) {
            Check.same("none", wall.cellsWithTone(tone), 0);
        }
        Check.same("all", wall.cellsWithTone(15), 48);
    }

    /** "the tone, 0 to 15" */
    private static void promise22FirstAndLastTone() {
        ShadowWall wall = Walls.like(BLACK);
        Check.same("all black", wall.cellsWithTone(0) + " " + wall.cellsWithTone(15), "48 0");
        wall.paint(0, 7, 5, 7, 5, 15);
        Check.same("the last cell white", wall.cellsWithTone(0) + " " + wall.cellsWithTone(15), "47 1");
    }

    /** "of several, the darkest one" */
    private static void promise23OfSeveralTheDarkest() {
        Check.same("24 cells of 15 and of 14", Walls.like("eeeeeeee", "eeeeeeee", "eeeeeeee").commonestTone(), 14);
        Check.same("24 cells of 15 and of 0", Walls.like("00000000", "00000000", "00000000").commonestTone(), 0);
        Check.same("16 cells of 9, 8 and 7", Walls.like("99999999", "88888888", "77777777", "99999999", "88888888",
                "77777777").commonestTone(), 7);
        Check.same("3 cells of each", Walls.like("01234567", "89abcdef", "01234567", "89abcdef", "01234567",
                "89abcdef").commonestTone(), 0);
    }

    /** "the tone that is seen in most cells": one cell more is enough. */
    private static void promise23OneCellMore() {
        Check.same("25 cells of 15, 23 of 0", Walls.like("00000000", "00000000", "0000000").commonestTone(), 15);
        Check.same("23 cells of 15, 25 of 14", Walls.like("eeeeeeee", "eeeeeeee", "eeeeeeee", "e").commonestTone(), 14);
        Check.same("all of 15", new ShadowWall().commonestTone(), 15);
        Check.same("all of 0", Walls.like(BLACK).commonestTone(), 0);
    }

    private static String sums(ShadowWall wall, int left, int upper, int right, int lower) {
        return wall.sumOfTones(left, upper, right, lower) + " " + wall.sumOfTonesByTable(left, upper, right, lower);
    }

    private static void promises24And25OneCell() {
        ShadowWall wall = Walls.like("1......2", "........", "........", "........", "........", "3......4");
        Check.same("upper left", sums(wall, 0, 0, 0, 0), "1 1");
        Check.same("upper right", sums(wall, 7, 0, 7, 0), "2 2");
        Check.same("lower left", sums(wall, 0, 5, 0, 5), "3 3");
        Check.same("lower right", sums(wall, 7, 5, 7, 5), "4 4");
    }

    private static void promises24And25LeastAndGreatest() {
        Check.same("all white", sums(new ShadowWall(), 0, 0, 7, 5), "720 720");
        Check.same("all black", sums(Walls.like(BLACK), 0, 0, 7, 5), "0 0");
    }

    /** "the right column, included"; "the lower row, included" */
    private static void promises24And25EachRectangle() {
        String[] rows = {"3141592f", "65358979", "32384626", "43383279", "50288419", "71693993"};
        ShadowWall wall = Walls.like(rows);
        for (int from = 0; from < 48; from++) {
            for (int to = from; to < 48; to++) {
                if (to % 8 >= from % 8) {
                    int due = 0;
                    for (int y = from / 8; y <= to / 8; y++) {
                        for (int x = from % 8; x <= to % 8; x++) {
                            due += Character.digit(rows[y].charAt(x), 16);
                        }
                    }
                    Check.same("from cell " + from + " to cell " + to,
                            sums(wall, from % 8, from / 8, to % 8, to / 8), due + " " + due);
                }
            }
        }
    }

    private static void promise26FromOneToAll() {
        ShadowWall wall = new ShadowWall();
        for (int cell = 0; cell < 48; cell++) {
            Check.same("all", wall.areaSize(cell % 8, cell / 8), 48);
        }
        for (int cell = 0; cell < 48; cell++) {
            ShadowWall one = Walls.with("n");
            one.paint(0, cell % 8, cell / 8, cell % 8, cell / 8, 14);
            Check.same("one", one.areaSize(cell % 8, cell / 8), 1);
        }
        Check.same("those above a line", Walls.like("........", "77777777").areaSize(7, 0), 8);
        Check.same("those below it", Walls.like("........", "77777777").areaSize(0, 5), 32);
    }

    private static String counts(ShadowWall wall) {
        return wall.areaCount() + " " + wall.areaCountByJoining();
    }

    private static void promises27And28FromOneToAll() {
        Check.same("one", counts(new ShadowWall()), "1 1");
        Check.same("one, all black", counts(Walls.like(BLACK)), "1 1");
        Check.same("48", counts(Walls.like("01234567", "89abcdef", "01234567", "89abcdef", "01234567", "89abcdef")),
                "48 48");
        Check.same("a ring around one", counts(Walls.like("000", "0.0", "000")), "3 3");
        Check.same("joined at their last cell", counts(Walls.like("0.0.0.0.", "0.0.0.0.", "0.0.0.0.", "0.0.0.0.",
                "0.0.0.0.", "00000000")), "5 5");
        Check.same("joined from the right", counts(Walls.like("...0", "..00", ".00", "00")), "3 3");
    }

    /** Sets that were joined for an earlier answer are not joined for the next one. */
    private static void promise28JoinedAgain() {
        ShadowWall wall = Walls.like("0.0", "000");
        Check.same("the upper left cell's set joins another one", counts(wall) + " " + counts(wall), "3 3 3 3");
        wall.paint(0, 0, 1, 7, 5, 9);
        Check.same("then it does not", counts(wall) + " " + counts(wall), "5 5 5 5");
    }

    private static void promise29FromOneToAll() {
        Check.same("all", new ShadowWall().largestArea(), 48);
        Check.same("one", Walls.like("01234567", "89abcdef", "01234567", "89abcdef", "01234567", "89abcdef")
                .largestArea(), 1);
        Check.same("the first of two", Walls.like("........", "........", "........", "........", "00000000")
                .largestArea(), 32);
        Check.same("the last of two", Walls.like("........", "00000000").largestArea(), 32);
        Check.same("two of 24", Walls.like("00000000", "00000000", "00000000").largestArea(), 24);
    }

    /** "of several, the upper one" */
    private static void promise30OfSeveralTheUpper() {
        Check.same("all white", new ShadowWall().darkestRow(), 0);
        Check.same("all black", Walls.like(BLACK).darkestRow(), 0);
        Check.same("rows 2 and 4", Walls.like("8", "8", "77", "8", "e0", "1").darkestRow(), 2);
        Check.same("rows 4 and 5", Walls.like("", "", "", "", "......78", "78").darkestRow(), 4);
    }

    /** "the row with the least sum": less by 1 is enough. */
    private static void promise30EachRow() {
        for (int y = 0; y < 6; y++) {
            ShadowWall wall = Walls.with("n");
            wall.paint(0, 0, 0, 7, 5, 9);
            wall.paint(0, 7, y, 7, y, 8);
            Check.same("darkestRow", wall.darkestRow(), y);
        }
    }

    private static void promise31OuterAndInnerColumns() {
        Check.same("all white", new ShadowWall().isMirrored(), true);
        Check.same("the inner columns", Walls.like("", "...12...").isMirrored(), false);
        Check.same("the outer columns", Walls.like("", "", "", "", "", "1......2").isMirrored(), false);
        Check.same("all columns", Walls.like("01233210", "f......f").isMirrored(), true);
        Check.same("rows are not reversed", Walls.like("00000000").isMirrored(), true);
        ShadowWall wall = Walls.like("1......2");
        wall.addLayer('d');
        wall.paint(1, 7, 0, 7, 0, 1);
        Check.same("what is seen is the same, of two layers", wall.isMirrored(), true);
    }

    /** "only one of them has a tone, or they have different tones" */
    private static void promise32FromNoneToAll() {
        ShadowWall wall = Walls.with("nm");
        Check.same("both empty", wall.differentCells(0, 1), 0);
        wall.paint(0, 0, 0, 7, 5, 0);
        Check.same("only the first", wall.differentCells(0, 1), 48);
        Check.same("only the second", wall.differentCells(1, 0), 48);
        wall.paint(1, 0, 0, 7, 5, 0);
        Check.same("the same tones", wall.differentCells(0, 1), 0);
        wall.paint(1, 0, 0, 7, 5, 1);
        Check.same("different tones", wall.differentCells(0, 1), 48);
        wall.erase(0, 0, 0, 9);
        wall.erase(1, 0, 0, 9);
        Check.same("both empty again", wall.differentCells(0, 1), 0);
    }

    /** "which may be the same" */
    private static void promise32TheSameLayer() {
        ShadowWall wall = Walls.like("123");
        Check.same("the same", wall.differentCells(0, 0), 0);
    }

    /** "then by position in ascending order" */
    private static void promise33AllTheSame() {
        ShadowWall wall = Walls.with("nmsdla");
        for (int rank = 0; rank < 6; rank++) {
            Check.same("of empty ones", wall.layerByPaint(rank), rank);
        }
        for (int layer = 0; layer < 6; layer++) {
            wall.paint(layer, 0, 0, 7, 5, layer);
        }
        for (int rank = 0; rank < 6; rank++) {
            Check.same("of full ones", wall.layerByPaint(rank), rank);
        }
    }

    /** "sorted by the number of cells in which they have a tone in descending order" */
    private static void promise33Descending() {
        ShadowWall wall = Walls.with("nmsdla");
        for (int layer = 0; layer < 6; layer++) {
            wall.paint(layer, 0, 0, layer, 0, 15 - layer);
        }
        wall.hide(5);
        for (int rank = 0; rank < 6; rank++) {
            Check.same("layerByPaint", wall.layerByPaint(rank), 5 - rank);
        }
    }

    /** "the rank, counted from 0" */
    private static void promise33FirstAndLastRank() {
        ShadowWall wall = Walls.with("nmn");
        wall.paint(1, 0, 0, 0, 0, 0);
        Check.same("first", wall.layerByPaint(0), 1);
        Check.same("last", wall.layerByPaint(2), 2);
        Check.refuses("behind the last", wall, NoSuchElementException.class, () -> wall.layerByPaint(3));
        Check.refuses("before the first", wall, NoSuchElementException.class, () -> wall.layerByPaint(-1));
    }

    /** "and cells that were painted again" */
    private static void promise34PaintedAgain() {
        ShadowWall wall = Walls.with("n");
        Check.same("at first", wall.paintedCells(), 0);
        wall.paint(0, 0, 0, 7, 5, 1);
        wall.paint(0, 0, 0, 7, 5, 1);
        wall.paint(0, 7, 5, 7, 5, 2);
        Check.same("painted again", wall.paintedCells(), 97);
        wall.erase(0, 0, 0, 9);
        wall.removeLayer(0);
        Check.same("erased, and the layer removed", wall.paintedCells(), 97);
    }

    /** "cells of shadows included" */
    private static void promise34ShadowsIncluded() {
        ShadowWall wall = Walls.like("", "", "", "", "111", "111");
        wall.castShadow(0, 12);
        Check.same("those on the wall", wall.paintedCells(), 6 + 3);
        wall.castShadow(0, 6);
        Check.same("none of the shadow", wall.paintedCells(), 9);
    }

    /** "in which a layer had a tone" */
    private static void promise35OnlyWithATone() {
        ShadowWall wall = Walls.like("12");
        Check.same("at first", wall.erasedCells(), 0);
        wall.erase(0, 5, 5, 1);
        Check.same("nothing", wall.erasedCells(), 0);
        wall.erase(0, 0, 0, 9);
        wall.erase(0, 0, 0, 9);
        Check.same("two, once", wall.erasedCells(), 2);
        wall.paint(0, 0, 0, 7, 5, 1);
        wall.removeLayer(0);
        Check.same("the layer removed", wall.erasedCells(), 2);
    }

    /** "so far": undo and restore bring back the sums, a refused call and a failed command add nothing. */
    private static void promises34And35Back() {
        ShadowWall wall = Walls.like("12");
        wall.save();
        wall.erase(0, 0, 0, 0);
        Walls.runRefused(wall, "paint 0 0075 1;erase 0 00 9;erase 0 80 1", UnsupportedOperationException.class);
        Check.same("after a failed command", wall.paintedCells() + " " + wall.erasedCells(), "2 1");
        Walls.run(wall, "paint 0 0075 1;erase 0 00 9");
        Check.same("after commands", wall.paintedCells() + " " + wall.erasedCells(), "50 49");
        wall.undo();
        Check.same("after undo", wall.paintedCells() + " " + wall.erasedCells(), "2 1");
        wall.restore();
        Check.same("after restore", wall.paintedCells() + " " + wall.erasedCells(), "2 0");
    }

    /** "the sum converted to double, divided by 48.0" */
    private static void promise36FromBlackToWhite() {
        Check.same("white", new ShadowWall().meanTone(), 15.0);
        ShadowWall wall = Walls.like(BLACK);
        Check.same("black", wall.meanTone(), 0.0);
        wall.paint(0, 7, 5, 7, 5, 1);
        Check.same("1", wall.meanTone(), 1 / 48.0);
        wall.paint(0, 0, 0, 0, 0, 15);
        Check.same("16", wall.meanTone(), 16 / 48.0);
        wall.hide(0);
        Check.same("hidden", wall.meanTone(), 15.0);
    }

    /** "their number converted to float, divided by 48.0f" */
    private static void promise37FromNoneToAll() {
        Check.same("without layers", new ShadowWall().coveredShare(), 0.0f);
        ShadowWall wall = Walls.with("nm");
        Check.same("without a tone", wall.coveredShare(), 0.0f);
        wall.paint(1, 7, 5, 7, 5, 15);
        Check.same("one", wall.coveredShare(), 1 / 48.0f);
        wall.paint(0, 7, 5, 7, 5, 15);
        Check.same("one, by two layers", wall.coveredShare(), 1 / 48.0f);
        wall.paint(0, 0, 0, 7, 5, 15);
        Check.same("all", wall.coveredShare(), 1.0f);
        wall.hide(0);
        Check.same("at least one visible layer", wall.coveredShare(), 1 / 48.0f);
        wall.erase(1, 7, 5, 0);
        Check.same("only a hidden one", wall.coveredShare(), 0.0f);
    }

    private static void promise38AlwaysTrue() {
        Check.same("without layers", new ShadowWall().isConsistent(), true);
        Check.same("black", Walls.like(BLACK).isConsistent(), true);
        ShadowWall wall = Walls.with("amsdln");
        for (int layer = 0; layer < 6; layer++) {
            wall.paint(layer, layer, layer / 2, 7, 5, 3 * layer);
            Check.same("painted", wall.isConsistent(), true);
        }
        for (int layer = 0; layer < 6; layer++) {
            wall.moveLayer(layer, 5 - layer);
            Check.same("moved", wall.isConsistent(), true);
        }
        for (int layer = 0; layer < 6; layer++) {
            wall.hide(layer);
            Check.same("hidden", wall.isConsistent(), true);
        }
    }

    /** No question of promises 11 to 38 is recorded or changes the state; asked again, it has the same answer. */
    private static void questionsChangeNothing() {
        ShadowWall wall = Walls.like("012345", "678", "", "9a");
        wall.castShadow(0, 14);
        String before = Picture.of(wall);
        String first = answers(wall);
        Check.same("the state after the questions", Picture.of(wall), before);
        Check.same("the answers once more", answers(wall), first);
        Check.same("what is undone is the shadow", wall.undo() + " " + wall.layerCount(), "7 1");
    }

    private static String answers(ShadowWall wall) {
        return wall.layerCount() + " " + wall.mode(0) + wall.isVisible(0) + wall.hasTone(0, 0, 0) + wall.tone(0, 1, 0)
                + " " + wall.painted(0) + " " + wall.visibleCount() + " " + wall.seen(1, 0) + " "
                + wall.seenFromTop(1, 0) + " " + wall.topLayer(0, 0) + " " + wall.coveringLayers(3, 1) + " "
                + wall.cellsWithTone(15) + " " + wall.commonestTone() + " " + sums(wall, 1, 1, 6, 4) + " "
                + wall.areaSize(7, 5) + " " + counts(wall) + " " + wall.largestArea() + " " + wall.darkestRow() + " "
                + wall.isMirrored() + " " + wall.differentCells(0, 1) + " " + wall.layerByPaint(1) + " "
                + wall.paintedCells() + " " + wall.erasedCells() + " " + wall.meanTone() + " " + wall.coveredShare()
                + " " + wall.isConsistent();
    }
}
