/** The edges that the sentences under "Terms" name, a test each. Commands, undo and errors have tests of their own. */
public final class TermsEdgesTest {
    public static void main(String[] arguments) {
        fiveHundredAndTwelveCalls();
        columnsAndRows();
        upperRow();
        tonesFromBlackToWhite();
        toneOfTheWallItself();
        atMostSixLayers();
        positionsFromTheBottom();
        blackIsNotNothing();
        newLayerIsVisibleAndEmpty();
        normalAtItsEnds();
        multiplyAtItsEnds();
        screenAtItsEnds();
        darkenAndLightenAtTheirEnds();
        averageAtItsEnds();
        flattenedBeginsWithTheWall();
        hiddenLayerIsNotBlended();
        layerWithoutAToneIsNotBlended();
        blendedFromTheBottomToTheTop();
        circleHoldsItsEdge();
        circleOfEachRadius();
        circleBeyondTheWall();
        shadowIsANewLayerOnTop();
        shadowAtTheFirstAndLastHour();
        shadowBesideTheWall();
        shadowBelowTheWall();
        shadowOfEveryTone();
        neighboursInARow();
        neighboursInAColumn();
        areaIsAsLargeAsPossible();
        areaHasOneTone();
        areaOfSeenTones();
        Check.end();
    }

    /** "An object is used for at most 512 calls after it has been made": the 512th still answers. */
    private static void fiveHundredAndTwelveCalls() {
        ShadowWall wall = Walls.with("nmsdla");
        for (int call = 6; call < 509; call++) {
            wall.paint(call % 6, 0, 0, 7, 5, call % 16);
        }
        Check.same("call 510", wall.paintedCells(), 503 * 48);
        Check.same("call 511", wall.undoCount(), 8);
        Check.same("call 512", wall.undo(), 7);
    }

    /** "The wall has 8 columns and 6 rows; a cell is given by its column x from 0 to 7 and its row y from 0 to 5." */
    private static void columnsAndRows() {
        ShadowWall wall = Walls.like("1......2", "........", "........", "........", "........", "3......4");
        Check.same("corners", "" + wall.seen(0, 0) + wall.seen(7, 0) + wall.seen(0, 5) + wall.seen(7, 5), "1234");
        Check.same("cells", wall.paint(0, 0, 0, 7, 5, 9), 48 - 4);
        Class<IndexOutOfBoundsException> index = IndexOutOfBoundsException.class;
        Check.refuses("column 8", wall, index, () -> wall.seen(8, 0));
        Check.refuses("row 6", wall, index, () -> wall.seen(0, 6));
        Check.refuses("column -1", wall, index, () -> wall.seen(-1, 5));
        Check.refuses("row -1", wall, index, () -> wall.seen(7, -1));
        Check.refuses("the columns' bound is not the rows'", wall, index, () -> wall.seen(0, 7));
    }

    /** "Row 0 is the upper one." */
    private static void upperRow() {
        ShadowWall wall = Walls.like("3");
        wall.writeRow(0);
        Check.same("the first row", Picture.output(wall), "3fffffff");
        wall.castShadow(0, 12);
        Check.same("a shadow falls from row 0 to row 1, which is lower", wall.hasTone(1, 0, 1), true);
    }

    /** "Tones go from 0, which is black, to 15, which is white." */
    private static void tonesFromBlackToWhite() {
        ShadowWall wall = Walls.with("nn");
        for (int tone = 0; tone <= 15; tone++) {
            wall.paint(0, 0, 0, 0, 0, tone);
            Check.same("tone", wall.tone(0, 0, 0) + " " + wall.seen(0, 0), tone + " " + tone);
        }
        Check.refuses("no tone is darker", wall, IllegalArgumentException.class, () -> wall.paint(0, 0, 0, 0, 0, -1));
        Check.refuses("no tone is lighter", wall, IllegalArgumentException.class, () -> wall.paint(0, 0, 0, 0, 0, 16));
    }

    /** "The wall itself has the tone 15 everywhere." */
    private static void toneOfTheWallItself() {
        ShadowWall wall = new ShadowWall();
        for (int cell = 0; cell < 48; cell++) {
            Check.same("seen and seenFromTop without layers",
                    wall.seen(cell % 8, cell / 8) + " " + wall.seenFromTop(cell % 8, cell / 8), "15 15");
        }
    }

    /** "At most 6 layers exist." */
    private static void atMostSixLayers() {
        ShadowWall wall = Walls.with("nmsdla");
        Class<IllegalStateException> state = IllegalStateException.class;
        Check.refuses("addLayer for the seventh", wall, state, () -> wall.addLayer('a'));
        Check.refuses("castShadow for the seventh", wall, state, () -> wall.castShadow(0, 12));
        Walls.runRefused(wall, "layer a", UnsupportedOperationException.class);
        Walls.runRefused(wall, "cast 0 12", UnsupportedOperationException.class);
        Check.same("layers", wall.layerCount(), 6);
        wall.removeLayer(0);
        Check.same("a sixth in the place of a removed one", wall.castShadow(0, 12) + " " + wall.layerCount(), "0 6");
        Check.refuses("addLayer for the seventh again", wall, state, () -> wall.addLayer('a'));
    }

    /** "Their positions start at 0 at the bottom and increase upwards." */
    private static void positionsFromTheBottom() {
        ShadowWall wall = Walls.with("nn");
        wall.paint(0, 0, 0, 0, 0, 4);
        Check.same("the bottom is seen alone", wall.seen(0, 0), 4);
        wall.paint(1, 0, 0, 0, 0, 11);
        Check.same("position 1 is above it", wall.seen(0, 0), 11);
    }

    /** "has a tone or nothing in each cell": black is a tone, and white too. */
    private static void blackIsNotNothing() {
        ShadowWall wall = Walls.like("0f");
        Check.same("hasTone", wall.hasTone(0, 0, 0) + " " + wall.hasTone(0, 1, 0) + " " + wall.hasTone(0, 2, 0),
                "true true false");
        Check.same("painted, coveringLayers and topLayer",
                wall.painted(0) + " " + wall.coveringLayers(0, 0) + " " + wall.topLayer(0, 0), "2 1 0");
        Check.same("erase", wall.erase(0, 0, 0, 1), 2);
        wall.addLayer('n');
        wall.paint(0, 0, 0, 0, 0, 0);
        Check.same("differentCells", wall.differentCells(0, 1), 1);
    }

    /** "A new layer is visible and empty", whatever stood in its place before. */
    private static void newLayerIsVisibleAndEmpty() {
        ShadowWall wall = Walls.with("nn");
        wall.paint(1, 0, 0, 7, 5, 3);
        wall.mergeDown(1);
        wall.addLayer('n');
        newOneIsVisibleAndEmpty("after mergeDown", wall);
        wall.removeLayer(1);
        wall.addLayer('s');
        newOneIsVisibleAndEmpty("after removeLayer", wall);
        for (int i = 0; i < 3; i++) {
            wall.undo();
        }
        wall.addLayer('a');
        newOneIsVisibleAndEmpty("after undo", wall);
        wall.removeLayer(1);
        wall.save();
        wall.addLayer('d');
        wall.paint(1, 0, 0, 7, 5, 3);
        wall.hide(1);
        wall.restore();
        wall.addLayer('l');
        newOneIsVisibleAndEmpty("after restore", wall);
        wall.removeLayer(1);
        Walls.runRefused(wall, "layer n;paint 1 0075 3;hide 1;hide 1", UnsupportedOperationException.class);
        wall.addLayer('m');
        newOneIsVisibleAndEmpty("after a failed command", wall);
    }

    /** After the check the layer is hidden and painted, to leave something in its place. */
    private static void newOneIsVisibleAndEmpty(String when, ShadowWall wall) {
        Check.same("isVisible " + when, wall.isVisible(1), true);
        Check.same("painted " + when, wall.painted(1), 0);
        wall.paint(1, 0, 0, 7, 5, 3);
        wall.hide(1);
    }

    /** What is seen when a layer has the tone t and what lies below it the tone b. */
    private static int blended(char mode, int b, int t) {
        ShadowWall wall = Walls.with("n" + mode);
        wall.paint(0, 7, 5, 7, 5, b);
        wall.paint(1, 7, 5, 7, 5, t);
        Check.same("seenFromTop with " + mode + " " + b + " " + t, wall.seenFromTop(7, 5), wall.seen(7, 5));
        return wall.seen(7, 5);
    }

    /** Rows of b, t and the tone that is due. */
    private static void blendedTo(char mode, int[]... rows) {
        for (int[] row : rows) {
            Check.same(mode + ": " + row[1] + " over " + row[0], blended(mode, row[0], row[1]), row[2]);
        }
    }

    /** "for 'n' (normal) t" */
    private static void normalAtItsEnds() {
        blendedTo('n', new int[][] {{0, 0, 0}, {0, 15, 15}, {15, 0, 0}, {15, 15, 15}, {7, 8, 8}});
    }

    /** "for 'm' (multiply) b times t divided by 15"; "All divisions are rounded down." */
    private static void multiplyAtItsEnds() {
        blendedTo('m', new int[][] {{0, 0, 0}, {0, 15, 0}, {15, 0, 0}, {15, 15, 15}, {15, 1, 1}, {1, 15, 1},
            {1, 14, 0}, {14, 1, 0}, {2, 8, 1}, {3, 5, 1}, {14, 14, 13}, {4, 11, 2}, {5, 9, 3}});
    }

    /** "15 minus the quotient of the product (15 minus b) times (15 minus t) and 15": the quotient is rounded down. */
    private static void screenAtItsEnds() {
        blendedTo('s', new int[][] {{0, 0, 0}, {0, 15, 15}, {15, 0, 15}, {15, 15, 15}, {0, 1, 1}, {1, 0, 1},
            {14, 14, 15}, {14, 1, 15}, {13, 7, 14}, {12, 10, 14}, {1, 1, 2}, {11, 4, 13}, {10, 6, 12}});
    }

    /** "for 'd' (darken) the smaller of b and t; for 'l' (lighten) the greater of b and t" */
    private static void darkenAndLightenAtTheirEnds() {
        blendedTo('d', new int[][] {{0, 0, 0}, {0, 15, 0}, {15, 0, 0}, {15, 15, 15}, {7, 8, 7}, {8, 7, 7}});
        blendedTo('l', new int[][] {{0, 0, 0}, {0, 15, 15}, {15, 0, 15}, {15, 15, 15}, {7, 8, 8}, {8, 7, 8}});
    }

    /** "for 'a' (average) the sum of b and t divided by 2": rounded down. */
    private static void averageAtItsEnds() {
        blendedTo('a', new int[][] {{0, 0, 0}, {0, 15, 7}, {15, 0, 7}, {15, 15, 15}, {0, 1, 0}, {1, 0, 0},
            {14, 15, 14}, {15, 14, 14}, {1, 1, 1}, {1, 3, 2}});
    }

    /** "The tone that is seen in a cell begins with 15, the tone of the wall" */
    private static void flattenedBeginsWithTheWall() {
        int[] due = {6, 6, 15, 6, 15, 10};
        for (int i = 0; i < 6; i++) {
            ShadowWall wall = Walls.with("" + Walls.MODES.charAt(i));
            wall.paint(0, 0, 0, 0, 0, 6);
            Check.same("the lowest layer over the wall", wall.seen(0, 0) + " " + wall.seenFromTop(0, 0),
                    due[i] + " " + due[i]);
        }
    }

    /** "each visible layer" */
    private static void hiddenLayerIsNotBlended() {
        ShadowWall wall = Walls.with("nm");
        wall.paint(0, 0, 0, 0, 0, 6);
        wall.paint(1, 0, 0, 0, 0, 0);
        wall.hide(1);
        Check.same("below a hidden one", wall.seen(0, 0) + " " + wall.seenFromTop(0, 0), "6 6");
        wall.hide(0);
        Check.same("all hidden", wall.seen(0, 0) + " " + wall.seenFromTop(0, 0), "15 15");
        wall.show(1);
        Check.same("above a hidden one", wall.seen(0, 0) + " " + wall.seenFromTop(0, 0), "0 0");
    }

    /** "that has a tone in this cell" */
    private static void layerWithoutAToneIsNotBlended() {
        ShadowWall wall = Walls.with("nmsdla");
        wall.paint(0, 0, 0, 0, 0, 6);
        for (int layer = 1; layer < 6; layer++) {
            wall.paint(layer, 1, 0, 7, 0, 9);
            wall.paint(layer, 0, 1, 7, 5, 9);
        }
        Check.same("below five with no tone there", wall.seen(0, 0) + " " + wall.seenFromTop(0, 0), "6 6");
    }

    /** "is blended with it, from the bottom to the top" */
    private static void blendedFromTheBottomToTheTop() {
        ShadowWall wall = Walls.with("amsdla");
        int[] tones = {4, 10, 5, 9, 8, 1};
        for (int layer = 0; layer < 6; layer++) {
            wall.paint(layer, 3, 3, 3, 3, tones[layer]);
        }
        // 15 a 4 = 9, m 10 = 6, s 5 = 15 - 90 / 15 = 9, d 9 = 9, l 8 = 9, a 1 = 5
        Check.same("six layers", wall.seen(3, 3), 5);
        wall.moveLayer(5, 0);
        // 15 a 1 = 8, a 4 = 6, m 10 = 4, s 5 = 15 - 110 / 15 = 8, d 9 = 8, l 8 = 8
        Check.same("in another order", wall.seen(3, 3) + " " + wall.seenFromTop(3, 3), "8 8");
    }

    /** "dx times dx plus dy times dy is not greater than r times r" */
    private static void circleHoldsItsEdge() {
        ShadowWall wall = Walls.with("n");
        wall.paint(0, 0, 0, 7, 5, 2);
        Check.same("radius 5 around the upper left cell", wall.erase(0, 0, 0, 5), 6 + 5 + 5 + 5 + 4 + 1);
        Check.same("5 and 0, 4 and 3, 3 and 4, 0 and 5 are in it", wall.hasTone(0, 5, 0) || wall.hasTone(0, 4, 3)
                || wall.hasTone(0, 3, 4) || wall.hasTone(0, 0, 5), false);
        Check.same("6 and 0, 5 and 1, 4 and 4, 1 and 5 are not", wall.hasTone(0, 6, 0) && wall.hasTone(0, 5, 1)
                && wall.hasTone(0, 4, 4) && wall.hasTone(0, 1, 5), true);
    }

    /** The same, for each radius, each cell as the middle and each cell of the wall. */
    private static void circleOfEachRadius() {
        for (int radius = 0; radius <= 9; radius++) {
            for (int middle = 0; middle < 48; middle++) {
                ShadowWall wall = Walls.with("n");
                wall.paint(0, 0, 0, 7, 5, 2);
                wall.erase(0, middle % 8, middle / 8, radius);
                for (int cell = 0; cell < 48; cell++) {
                    int dx = cell % 8 - middle % 8;
                    int dy = cell / 8 - middle / 8;
                    Check.same("circle of " + radius + ": " + dx + ", " + dy, wall.hasTone(0, cell % 8, cell / 8),
                            dx * dx + dy * dy > radius * radius);
                }
            }
        }
    }

    /** "Cells outside the wall are not considered", nor do they come in again on the other side. */
    private static void circleBeyondTheWall() {
        ShadowWall wall = Walls.with("n");
        wall.paint(0, 0, 0, 7, 5, 2);
        Check.same("at the left edge", wall.erase(0, 0, 2, 1), 4);
        Check.same("at the right edge", wall.erase(0, 7, 3, 1), 4);
        Check.same("in the upper right corner", wall.erase(0, 7, 0, 1), 3);
        Check.same("in the lower left corner", wall.erase(0, 0, 5, 1), 3);
        Check.same("what is left", Picture.layers(wall), "\nn+ 222222.. .222222. ..22222. .22222.. .222222. ..222222 ");
    }

    /** "a new layer on top with the mode 'm'" */
    private static void shadowIsANewLayerOnTop() {
        ShadowWall wall = Walls.with("nsdla");
        wall.paint(2, 4, 4, 4, 4, 9);
        Check.same("castShadow", wall.castShadow(2, 12), 1);
        Check.same("the layers", wall.layerCount() + " " + wall.mode(5) + " " + wall.isVisible(5), "6 m true");
        wall.hide(2);
        Check.same("15 times 8 divided by 15", wall.seen(4, 5), 8);
    }

    /** "at an hour from 6 to 18": "whose column is greater by the hour minus 12" */
    private static void shadowAtTheFirstAndLastHour() {
        ShadowWall wall = Walls.like("77777777");
        Check.same("at 6", wall.castShadow(0, 6), 2);
        Check.same("its cells", wall.hasTone(1, 0, 1) && wall.hasTone(1, 1, 1), true);
        Check.same("at 18", wall.castShadow(0, 18), 2);
        Check.same("its cells", wall.hasTone(2, 6, 1) && wall.hasTone(2, 7, 1), true);
        for (int hour = 6; hour <= 18; hour++) {
            ShadowWall every = Walls.like("77777777");
            Check.same("at " + hour, every.castShadow(0, hour), 8 - Math.abs(hour - 12));
        }
        Check.refuses("at 5", wall, IllegalArgumentException.class, () -> wall.castShadow(0, 5));
        Check.refuses("at 19", wall, IllegalArgumentException.class, () -> wall.castShadow(0, 19));
    }

    /** "if there is such a cell": not beside the wall, nor on its other side. */
    private static void shadowBesideTheWall() {
        ShadowWall left = Walls.like("7.......", "7.......");
        Check.same("left of the wall", left.castShadow(0, 11), 0);
        Check.same("nor on the other side", left.painted(1), 0);
        ShadowWall right = Walls.like(".......7", ".......7");
        Check.same("right of the wall", right.castShadow(0, 13), 0);
        Check.same("nor in the next row", right.painted(1), 0);
    }

    /** "whose row is greater by 1, if there is such a cell" */
    private static void shadowBelowTheWall() {
        ShadowWall wall = Walls.like("........", "........", "........", "........", "........", "77777777");
        Check.same("below the wall", wall.castShadow(0, 12), 0);
        Check.same("nor in the upper row", wall.painted(1), 0);
        wall.paint(0, 3, 4, 3, 4, 7);
        Check.same("in the lowest row", wall.castShadow(0, 12), 1);
        Check.same("there it is", wall.tone(2, 3, 5), 8);
    }

    /** "for each cell in which the layer has a tone, it has the tone 8" */
    private static void shadowOfEveryTone() {
        ShadowWall wall = Walls.like("01234567", "89abcdef");
        Check.same("castShadow", wall.castShadow(0, 12), 16);
        for (int x = 0; x < 8; x++) {
            Check.same("its tones", wall.tone(1, x, 1) + " " + wall.tone(1, x, 2), "8 8");
        }
        Check.same("elsewhere it has nothing", wall.hasTone(1, 0, 0) || wall.hasTone(1, 0, 3), false);
        Check.same("castShadow of an empty layer", Walls.with("n").castShadow(0, 12), 0);
    }

    private static String areas(ShadowWall wall) {
        return wall.areaCount() + " " + wall.areaCountByJoining() + " " + wall.largestArea();
    }

    /** "in the same row and in columns that differ by 1": not the end of a row and the beginning of the next one. */
    private static void neighboursInARow() {
        ShadowWall wall = Walls.like(".......0", "0.......");
        Check.same("the end and the beginning", wall.areaSize(7, 0) + " " + wall.areaSize(0, 1), "1 1");
        Check.same("areas", areas(wall), "3 3 46");
        Check.same("columns that differ by 2", Walls.like("0.0").areaSize(0, 0), 1);
        Check.same("columns that differ by 1", Walls.like("00").areaSize(1, 0), 2);
    }

    /** "in the same column and in rows that differ by 1": not aslant, nor the lowest row and the upper one. */
    private static void neighboursInAColumn() {
        ShadowWall wall = Walls.like("0.......", "........", "........", "........", "........", "0.......");
        Check.same("the upper row and the lowest one", wall.areaSize(0, 0) + " " + wall.areaSize(0, 5), "1 1");
        Check.same("aslant", Walls.like("0", ".0").areaSize(0, 0), 1);
        Check.same("aslant the other way", Walls.like(".0", "0").areaSize(0, 1), 1);
        Check.same("rows that differ by 1", Walls.like("0", "0").areaSize(0, 1), 2);
        Check.same("areas aslant", areas(Walls.like("0", ".0")), "3 3 46");
    }

    /** "that is as large as possible": from one cell to the whole wall, over any number of corners. */
    private static void areaIsAsLargeAsPossible() {
        Check.same("the whole wall", areas(new ShadowWall()), "1 1 48");
        Check.same("all of it, from each corner", new ShadowWall().areaSize(7, 5), 48);
        ShadowWall snake = Walls.like("00000000", ".......0", "00000000", "0.......", "00000000", ".......0");
        Check.same("a snake", snake.areaSize(0, 0) + " " + snake.areaSize(7, 5), "27 27");
        Check.same("areas of the snake", areas(snake), "4 4 27");
        ShadowWall single = Walls.like("01010101", "10101010", "01010101", "10101010", "01010101", "10101010");
        Check.same("each cell by itself", areas(single), "48 48 1");
    }

    /** "with the same seen tone": tones that differ by 1 are not the same. */
    private static void areaHasOneTone() {
        Check.same("rising tones", areas(Walls.like("01234567")), "9 9 40");
        Check.same("14 is not 15", Walls.like("eeeeeeee").areaSize(0, 1), 40);
    }

    /** "with the same seen tone": whatever the layers are that it comes from. */
    private static void areaOfSeenTones() {
        ShadowWall wall = Walls.like("f8", "8");
        wall.addLayer('m');
        wall.paint(1, 1, 1, 1, 1, 8);
        Check.same("tones of two layers", wall.areaSize(1, 1), 3);
        Check.same("white paint and the wall", wall.areaSize(0, 0) + " " + wall.areaSize(7, 5), "1 44");
        wall.hide(0);
        Check.same("hidden paint is not seen", wall.areaSize(0, 0) + " " + wall.areaSize(1, 1), "47 1");
    }
}
