/** Walls to be tested, and what several tests do with them. */
final class Walls {
    static final String MODES = "nmsdla";
    static final int[] NO_COLUMNS = {-1, 8, Integer.MIN_VALUE, Integer.MAX_VALUE};
    static final int[] NO_ROWS = {-1, 6, Integer.MIN_VALUE, Integer.MAX_VALUE};

    private Walls() {
    }

    /** A wall with an empty layer for each letter, from the bottom to the top. */
    static ShadowWall with(String modes) {
        ShadowWall wall = new ShadowWall();
        for (char mode : modes.toCharArray()) {
            wall.addLayer(mode);
        }
        return wall;
    }

    /** A wall with one layer, each of whose rows is a text: a hexadecimal tone, or a point for nothing. */
    static ShadowWall like(String... rows) {
        ShadowWall wall = with("n");
        for (int y = 0; y < rows.length; y++) {
            for (int x = 0; x < rows[y].length(); x++) {
                if (rows[y].charAt(x) != '.') {
                    wall.paint(0, x, y, x, y, Character.digit(rows[y].charAt(x), 16));
                }
            }
        }
        return wall;
    }

    /** The modes of all layers, from the bottom to the top. */
    static String modes(ShadowWall wall) {
        StringBuilder text = new StringBuilder();
        for (int layer = 0; layer < wall.layerCount(); layer++) {
            text.append(wall.mode(layer));
        }
        return text.toString();
    }

    static void feed(ShadowWall wall, String text) {
        for (char character : text.toCharArray()) {
            wall.feed(character);
        }
    }

    static int run(ShadowWall wall, String text) {
        feed(wall, text);
        return wall.runCommands();
    }

    static void runRefused(ShadowWall wall, String text, Class<? extends RuntimeException> due) {
        feed(wall, text);
        Check.throwsJust("runCommands of \"" + text + "\"", due, wall::runCommands);
    }
}
