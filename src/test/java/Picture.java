import java.util.NoSuchElementException;

/** All that can be asked of a wall without changing it, as one text. */
final class Picture {
    private Picture() {
    }

    static String of(ShadowWall wall) {
        return layers(wall) + "\npainted " + wall.paintedCells() + " erased " + wall.erasedCells()
                + " undo " + wall.undoCount() + " error " + errorPosition(wall) + " failed " + failedCommand(wall)
                + " output " + output(wall);
    }

    static String layers(ShadowWall wall) {
        StringBuilder text = new StringBuilder();
        for (int layer = 0; layer < wall.layerCount(); layer++) {
            text.append('\n').append(wall.mode(layer)).append(wall.isVisible(layer) ? '+' : '-').append(' ');
            for (int y = 0; y < 6; y++) {
                for (int x = 0; x < 8; x++) {
                    text.append(wall.hasTone(layer, x, y) ? Integer.toHexString(wall.tone(layer, x, y)) : ".");
                }
                text.append(' ');
            }
        }
        return text.toString();
    }

    static String output(ShadowWall wall) {
        StringBuilder text = new StringBuilder();
        try {
            for (int i = 0; i < 1000; i++) {
                text.append(wall.outputChar(i));
            }
        } catch (IndexOutOfBoundsException end) {
            return text.toString();
        }
        return text + "..";
    }

    static String errorPosition(ShadowWall wall) {
        try {
            return String.valueOf(wall.errorPosition());
        } catch (NoSuchElementException none) {
            return "none";
        }
    }

    static String failedCommand(ShadowWall wall) {
        try {
            return String.valueOf(wall.failedCommand());
        } catch (NoSuchElementException none) {
            return "none";
        }
    }
}
