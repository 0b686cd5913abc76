/** Promises 43 to 45: the output. */
public final class OutputTest {
    public static void main(String[] arguments) {
        promise43WriteRow();
        promise44WriteLayers();
        promise45OutputChar();
        outputIsNotUndone();
        Check.end();
    }

    private static void promise43WriteRow() {
        ShadowWall wall = new ShadowWall();
        wall.addLayer('n');
        for (int tone = 0; tone < 16; tone++) {
            int y = 2 + tone / 8;
            wall.paint(0, tone % 8, y, tone % 8, y, tone);
        }
        wall.paint(0, 2, 5, 3, 5, 8);
        wall.paint(0, 6, 5, 6, 5, 0);
        Check.same("writeRow", wall.writeRow(2), 8);
        Check.same("the darker tones", Picture.output(wall), "01234567");
        Check.same("writeRow", wall.writeRow(3), 8);
        Check.same("the lighter tones", Picture.output(wall), "89abcdef");
        Check.same("writeRow", wall.writeRow(5), 8);
        Check.same("the lower row", Picture.output(wall), "ff88ff0f");
        Check.same("writeRow", wall.writeRow(0), 8);
        Check.same("the upper row", Picture.output(wall), "ffffffff");
        wall.addLayer('m');
        wall.paint(1, 0, 3, 7, 3, 8);
        wall.writeRow(3);
        Check.same("the tones as they are seen", Picture.output(wall), "44556678");
        wall.hide(0);
        wall.writeRow(3);
        Check.same("without the hidden layer", Picture.output(wall), "88888888");
        for (int y : new int[] {-1, 6, Integer.MIN_VALUE, Integer.MAX_VALUE}) {
            Check.refuses("writeRow " + y, wall, IndexOutOfBoundsException.class, () -> wall.writeRow(y));
        }
    }

    private static void promise44WriteLayers() {
        ShadowWall wall = new ShadowWall();
        wall.writeRow(0);
        Check.same("writeLayers of none", wall.writeLayers(), 0);
        Check.same("it is empty", Picture.output(wall), "");
        wall.addLayer('n');
        wall.addLayer('m');
        wall.addLayer('a');
        wall.paint(0, 0, 0, 3, 2, 1);
        wall.hide(1);
        wall.paint(2, 3, 3, 7, 3, 1);
        Check.same("writeLayers", wall.writeLayers(), 10);
        Check.same("the document's example", Picture.output(wall), "n12 m-0 a5");
        wall.addLayer('s');
        wall.addLayer('d');
        wall.addLayer('l');
        for (int layer = 0; layer < 6; layer++) {
            wall.paint(layer, 0, 0, 7, 5, 1);
            if (layer != 1) {
                wall.hide(layer);
            }
        }
        Check.same("the longest description", wall.writeLayers(), 29);
        Check.same("all of it", Picture.output(wall), "n-48 m-48 a-48 s-48 d-48 l-48");
        wall.erase(3, 0, 0, 9);
        wall.paint(3, 0, 0, 4, 1, 1);
        Check.same("writeLayers", wall.writeLayers(), 29);
        Check.same("10 cells", Picture.output(wall), "n-48 m-48 a-48 s-10 d-48 l-48");
        wall.erase(3, 0, 0, 0);
        wall.show(3);
        Check.same("a shorter one", wall.writeLayers(), 27);
        Check.same("9 cells", Picture.output(wall), "n-48 m-48 a-48 s9 d-48 l-48");
    }

    private static void promise45OutputChar() {
        ShadowWall wall = new ShadowWall();
        for (int index : new int[] {0, -1, 1, Integer.MIN_VALUE, Integer.MAX_VALUE}) {
            Check.refuses("outputChar " + index + " at first", wall, IndexOutOfBoundsException.class,
                    () -> wall.outputChar(index));
        }
        wall.addLayer('s');
        wall.writeRow(0);
        Check.same("outputChar", wall.outputChar(7), 'f');
        for (int index : new int[] {8, -1, 9, 32, Integer.MIN_VALUE, Integer.MAX_VALUE}) {
            Check.refuses("outputChar " + index, wall, IndexOutOfBoundsException.class, () -> wall.outputChar(index));
        }
        wall.writeLayers();
        Check.same("outputChar", "" + wall.outputChar(0) + wall.outputChar(1), "s0");
        Check.refuses("outputChar of the earlier output", wall, IndexOutOfBoundsException.class,
                () -> wall.outputChar(2));
    }

    private static void outputIsNotUndone() {
        ShadowWall wall = new ShadowWall();
        wall.save();
        wall.addLayer('d');
        wall.writeLayers();
        Check.same("writeLayers is not recorded", wall.undo(), 0);
        Check.same("the output after undo", Picture.output(wall), "d0");
        wall.restore();
        Check.same("the output after restore", Picture.output(wall), "d0");
        wall.addLayer('a');
        Check.same("the output after a change", Picture.output(wall), "d0");
    }
}
