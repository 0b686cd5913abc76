import java.util.Arrays;
import java.util.NoSuchElementException;

/** A wall that is painted in layers of shadow. */
public final class ShadowWall {
    private static final int COLUMNS = 8;
    private static final int ROWS = 6;
    private static final int CELLS = COLUMNS * ROWS;
    private static final int WHITE = 15;
    private static final int SHADOW_TONE = 8;
    private static final int MOST_LAYERS = 6;
    private static final int BOTTOM = 0;
    private static final int MOST_UNDO = 8;
    private static final int LARGEST_RADIUS = 9;
    private static final int FIRST_HOUR = 6;
    private static final int NOON = 12;
    private static final int LAST_HOUR = 18;
    private static final int INPUT_LIMIT = 60;
    /** Six layers of four characters ("n-48") and five blanks need 29. */
    private static final int OUTPUT_LIMIT = 32;

    /** A tone where a layer has none, and a position or number where there is none. */
    private static final int NONE = -1;

    /*
     * Why a change was refused. The changes answer these instead of throwing, because a change is called by a
     * method of the face and by a text command alike, and a command's failure is not the caller's exception.
     * All answers that are due are 0 or greater, so that these can't be mistaken for one.
     */
    private static final int NO_SUCH_PLACE = -2;
    private static final int WRONG_ARGUMENT = -3;
    private static final int WRONG_STATE = -4;
    private static final int NOTHING_BELOW = -5;
    private static final int NOT_MERGEABLE = -6;

    private final Layers layers = new Layers();
    private final History history = new History();
    private final Layers savedLayers = new Layers();
    private boolean isSaved = false;
    private final FlatWall flatWall = new FlatWall();
    private final CommandText input = new CommandText();
    private final Output output = new Output();
    private int latestErrorPosition = NONE;
    private int latestFailedCommand = NONE;

    public ShadowWall() {
    }

    // ---- changes, each of which can be undone

    public int addLayer(char mode) throws IllegalArgumentException, IllegalStateException {
        history.prepare(layers);
        int answer = layers.addOnTop(mode);
        if (answer == WRONG_ARGUMENT) {
            throw new IllegalArgumentException("there is no such mode");
        }
        if (answer == WRONG_STATE) {
            throw new IllegalStateException("there are 6 layers");
        }
        history.commit();
        return answer;
    }

    public int removeLayer(int layer) throws IndexOutOfBoundsException {
        history.prepare(layers);
        int answer = layers.takeAway(layer);
        if (answer == NO_SUCH_PLACE) {
            throw new IndexOutOfBoundsException("there is no such layer");
        }
        history.commit();
        return answer;
    }

    public int paint(int layer, int left, int upper, int right, int lower, int tone)
            throws IndexOutOfBoundsException, IllegalArgumentException {
        history.prepare(layers);
        int answer = layers.paintRectangle(layer, left, upper, right, lower, tone);
        if (answer == NO_SUCH_PLACE) {
            throw new IndexOutOfBoundsException("there is no such layer or cell");
        }
        if (answer == WRONG_ARGUMENT) {
            throw new IllegalArgumentException("the rectangle is reversed, or the tone is out of range");
        }
        history.commit();
        return answer;
    }

    public int erase(int layer, int x, int y, int radius)
            throws IndexOutOfBoundsException, IllegalArgumentException {
        history.prepare(layers);
        int answer = layers.eraseCircle(layer, x, y, radius);
        if (answer == NO_SUCH_PLACE) {
            throw new IndexOutOfBoundsException("there is no such layer or cell");
        }
        if (answer == WRONG_ARGUMENT) {
            throw new IllegalArgumentException("the radius is out of range");
        }
        history.commit();
        return answer;
    }

    public int hide(int layer) throws IndexOutOfBoundsException, IllegalStateException {
        history.prepare(layers);
        int answer = layers.turnVisible(layer, false);
        if (answer == NO_SUCH_PLACE) {
            throw new IndexOutOfBoundsException("there is no such layer");
        }
        if (answer == WRONG_STATE) {
            throw new IllegalStateException("the layer is hidden");
        }
        history.commit();
        return answer;
    }

    public int show(int layer) throws IndexOutOfBoundsException, IllegalStateException {
        history.prepare(layers);
        int answer = layers.turnVisible(layer, true);
        if (answer == NO_SUCH_PLACE) {
            throw new IndexOutOfBoundsException("there is no such layer");
        }
        if (answer == WRONG_STATE) {
            throw new IllegalStateException("the layer is visible");
        }
        history.commit();
        return answer;
    }

    public int moveLayer(int from, int to) throws IndexOutOfBoundsException {
        history.prepare(layers);
        int answer = moveAndCompare(from, to);
        if (answer == NO_SUCH_PLACE) {
            throw new IndexOutOfBoundsException("there is no such layer");
        }
        history.commit();
        return answer;
    }

    public int mergeDown(int layer)
            throws IndexOutOfBoundsException, NoSuchElementException, UnsupportedOperationException {
        history.prepare(layers);
        int answer = layers.mergeWithLower(layer);
        if (answer == NO_SUCH_PLACE) {
            throw new IndexOutOfBoundsException("there is no such layer");
        }
        if (answer == NOTHING_BELOW) {
            throw new NoSuchElementException("it is the lowest layer");
        }
        if (answer == NOT_MERGEABLE) {
            throw new UnsupportedOperationException("a layer is not of the mode n, or is hidden");
        }
        history.commit();
        return answer;
    }

    public int castShadow(int layer, int hour)
            throws IndexOutOfBoundsException, IllegalArgumentException, IllegalStateException {
        history.prepare(layers);
        int answer = layers.addShadow(layer, hour);
        if (answer == NO_SUCH_PLACE) {
            throw new IndexOutOfBoundsException("there is no such layer");
        }
        if (answer == WRONG_ARGUMENT) {
            throw new IllegalArgumentException("the hour is out of range");
        }
        if (answer == WRONG_STATE) {
            throw new IllegalStateException("there are 6 layers");
        }
        history.commit();
        return answer;
    }

    private int moveAndCompare(int from, int to) {
        if (layers.at(from) == null || layers.at(to) == null) {
            return NO_SUCH_PLACE;
        }
        flatWall.flatten(layers);
        layers.shift(from, to);
        return flatWall.countCellsUnlike(layers);
    }

    // ---- the layers

    public int layerCount() {
        return layers.count;
    }

    public char mode(int layer) throws IndexOutOfBoundsException {
        return existingLayer(layer).blendMode;
    }

    public boolean isVisible(int layer) throws IndexOutOfBoundsException {
        return existingLayer(layer).visible;
    }

    public boolean hasTone(int layer, int x, int y) throws IndexOutOfBoundsException {
        return existingLayer(layer).toneAt(existingCell(x, y)) != NONE;
    }

    public int tone(int layer, int x, int y) throws IndexOutOfBoundsException, NoSuchElementException {
        int found = existingLayer(layer).toneAt(existingCell(x, y));
        if (found == NONE) {
            throw new NoSuchElementException("the layer has nothing there");
        }
        return found;
    }

    public int painted(int layer) throws IndexOutOfBoundsException {
        return existingLayer(layer).countTones();
    }

    public int visibleCount() {
        return layers.countVisible();
    }

    public int differentCells(int first, int second) throws IndexOutOfBoundsException {
        return existingLayer(first).countCellsUnlike(existingLayer(second));
    }

    public int layerByPaint(int rank) throws NoSuchElementException {
        int position = layers.positionOfRank(rank);
        if (position == NONE) {
            throw new NoSuchElementException("there is no such rank");
        }
        return position;
    }

    public int paintedCells() {
        return layers.paintedSum;
    }

    public int erasedCells() {
        return layers.erasedSum;
    }

    private Layer existingLayer(int position) {
        Layer layer = layers.at(position);
        if (layer == null) {
            throw new IndexOutOfBoundsException("there is no such layer");
        }
        return layer;
    }

    private static int existingCell(int x, int y) {
        if (!isCell(x, y)) {
            throw new IndexOutOfBoundsException("there is no such cell");
        }
        return cellNumber(x, y);
    }

    // ---- the flattened wall

    public int seen(int x, int y) throws IndexOutOfBoundsException {
        return layers.toneFrom(BOTTOM, existingCell(x, y));
    }

    public int seenFromTop(int x, int y) throws IndexOutOfBoundsException {
        return layers.toneFromTop(existingCell(x, y));
    }

    public int topLayer(int x, int y) throws IndexOutOfBoundsException, NoSuchElementException {
        int position = layers.uppermostCovering(existingCell(x, y));
        if (position == NONE) {
            throw new NoSuchElementException("no visible layer has a tone there");
        }
        return position;
    }

    public int coveringLayers(int x, int y) throws IndexOutOfBoundsException {
        return layers.countCovering(existingCell(x, y));
    }

    public int cellsWithTone(int tone) throws IllegalArgumentException {
        if (!isTone(tone)) {
            throw new IllegalArgumentException("the tone is out of range");
        }
        return flattened().countTone(tone);
    }

    public int commonestTone() {
        return flattened().mostFrequentTone();
    }

    public int sumOfTones(int left, int upper, int right, int lower)
            throws IndexOutOfBoundsException, IllegalArgumentException {
        requireRectangle(left, upper, right, lower);
        return flattened().sumCellByCell(left, upper, right, lower);
    }

    public int sumOfTonesByTable(int left, int upper, int right, int lower)
            throws IndexOutOfBoundsException, IllegalArgumentException {
        requireRectangle(left, upper, right, lower);
        return flattened().sumFromTable(left, upper, right, lower);
    }

    public int areaSize(int x, int y) throws IndexOutOfBoundsException {
        return flattened().sizeOfAreaAt(existingCell(x, y));
    }

    public int areaCount() {
        return flattened().countAreasByFilling();
    }

    public int areaCountByJoining() {
        return flattened().countAreasByJoining();
    }

    public int largestArea() {
        return flattened().sizeOfLargestArea();
    }

    public int darkestRow() {
        return flattened().rowWithLeastSum();
    }

    public boolean isMirrored() {
        return flattened().equalsItsMirrorImage();
    }

    public double meanTone() {
        return (double) flattened().sumOfAllCells() / 48.0;
    }

    public float coveredShare() {
        return (float) layers.countCoveredCells() / 48.0f;
    }

    public boolean isConsistent() {
        FlatWall wall = flattened();
        return wall.countCellsUnlikeFromTop(layers) == 0
                && wall.sumOfAllCells() == wall.sumFromTable(0, 0, COLUMNS - 1, ROWS - 1)
                && wall.countAreasByFilling() == wall.countAreasByJoining();
    }

    private FlatWall flattened() {
        flatWall.flatten(layers);
        return flatWall;
    }

    private static void requireRectangle(int left, int upper, int right, int lower) {
        if (!isCell(left, upper) || !isCell(right, lower)) {
            throw new IndexOutOfBoundsException("there is no such cell");
        }
        if (left > right || upper > lower) {
            throw new IllegalArgumentException("the rectangle is reversed");
        }
    }

    // ---- text commands

    public int feed(char character) throws IllegalStateException {
        if (input.isFull()) {
            throw new IllegalStateException("the input buffer holds 60 characters");
        }
        return input.append(character);
    }

    public int runCommands() throws IllegalArgumentException, UnsupportedOperationException {
        int commands = input.countCommands();
        if (commands == NONE) {
            latestErrorPosition = input.place;
            input.clear();
            throw new IllegalArgumentException("the text is malformed");
        }
        history.prepare(layers);
        int failed = carryOutUntilFailure(commands);
        input.clear();
        if (failed != NONE) {
            latestFailedCommand = failed;
            history.fetchPrepared(layers);
            throw new UnsupportedOperationException("a command failed");
        }
        history.commit();
        return commands;
    }

    public int errorPosition() throws NoSuchElementException {
        if (latestErrorPosition == NONE) {
            throw new NoSuchElementException("no text was malformed");
        }
        return latestErrorPosition;
    }

    public int failedCommand() throws NoSuchElementException {
        if (latestFailedCommand == NONE) {
            throw new NoSuchElementException("no command failed");
        }
        return latestFailedCommand;
    }

    /** Answers the index of the command that failed, or NONE. */
    private int carryOutUntilFailure(int commands) {
        input.rewind();
        for (int index = 0; index < commands; index++) {
            input.readCommand();
            if (carryOut(input) < 0) {
                return index;
            }
            input.skipSeparator();
        }
        return NONE;
    }

    /** Does what the command says, without recording it: the whole text is recorded as one call. */
    private int carryOut(CommandText command) {
        int first = command.number(0);
        int second = command.number(1);
        switch (command.kind) {
            case CommandText.LAYER:
                return layers.addOnTop((char) first);
            case CommandText.PAINT:
                return layers.paintRectangle(first, second, command.number(2), command.number(3),
                        command.number(4), command.number(5));
            case CommandText.ERASE:
                return layers.eraseCircle(first, second, command.number(2), command.number(3));
            case CommandText.HIDE:
                return layers.turnVisible(first, false);
            case CommandText.SHOW:
                return layers.turnVisible(first, true);
            case CommandText.MERGE:
                return layers.mergeWithLower(first);
            case CommandText.MOVE:
                return moveAndCompare(first, second);
            case CommandText.CAST:
                return layers.addShadow(first, second);
            default:
                return WRONG_ARGUMENT;
        }
    }

    // ---- the output

    public int writeRow(int y) throws IndexOutOfBoundsException {
        if (y < 0 || y >= ROWS) {
            throw new IndexOutOfBoundsException("there is no such row");
        }
        output.clear();
        for (int x = 0; x < COLUMNS; x++) {
            output.putHexDigit(layers.toneFrom(BOTTOM, cellNumber(x, y)));
        }
        return output.length;
    }

    public int writeLayers() {
        output.clear();
        for (int position = 0; position < layers.count; position++) {
            if (position > 0) {
                output.put(' ');
            }
            describe(layers.at(position));
        }
        return output.length;
    }

    public char outputChar(int index) throws IndexOutOfBoundsException {
        if (index < 0 || index >= output.length) {
            throw new IndexOutOfBoundsException("there is no such character");
        }
        return output.charAt(index);
    }

    private void describe(Layer layer) {
        if (layer == null) {
            return;
        }
        output.put(layer.blendMode);
        if (!layer.visible) {
            output.put('-');
        }
        output.putNumber(layer.countTones());
    }

    // ---- going back

    public int undoCount() {
        return history.size;
    }

    public int undo() throws IllegalStateException {
        if (history.size == 0) {
            throw new IllegalStateException("no call can be undone");
        }
        history.stepBack(layers);
        return history.size;
    }

    public int save() {
        savedLayers.copyFrom(layers);
        isSaved = true;
        return layers.count;
    }

    public int restore() throws IllegalStateException {
        if (!isSaved) {
            throw new IllegalStateException("no state was saved");
        }
        layers.copyFrom(savedLayers);
        history.forgetAll();
        return layers.count;
    }

    // ---- cells, tones and modes

    private static boolean isCell(int x, int y) {
        return x >= 0 && x < COLUMNS && y >= 0 && y < ROWS;
    }

    private static int cellNumber(int x, int y) {
        return y * COLUMNS + x;
    }

    private static boolean isTone(int tone) {
        return tone >= 0 && tone <= WHITE;
    }

    private static boolean isMode(char letter) {
        return letter == 'n' || letter == 'm' || letter == 's' || letter == 'd' || letter == 'l' || letter == 'a';
    }

    private static int blend(char mode, int below, int tone) {
        switch (mode) {
            case 'm':
                return below * tone / WHITE;
            case 's':
                return WHITE - (WHITE - below) * (WHITE - tone) / WHITE;
            case 'd':
                return below < tone ? below : tone;
            case 'l':
                return below > tone ? below : tone;
            case 'a':
                return (below + tone) / 2;
            default:
                return tone;
        }
    }

    /** One layer: a mode, whether it is visible, and a tone or NONE in each cell. */
    private static final class Layer {
        private char blendMode = 'n';
        private boolean visible = true;
        private final int[] tones = new int[CELLS];

        void begin(char newMode) {
            blendMode = newMode;
            visible = true;
            Arrays.fill(tones, NONE);
        }

        void copyFrom(Layer other) {
            blendMode = other.blendMode;
            visible = other.visible;
            System.arraycopy(other.tones, 0, tones, 0, CELLS);
        }

        int toneAt(int cell) {
            return cell >= 0 && cell < tones.length ? tones[cell] : NONE;
        }

        private void setTone(int cell, int tone) {
            if (cell >= 0 && cell < tones.length) {
                tones[cell] = tone;
            }
        }

        boolean covers(int cell) {
            return visible && toneAt(cell) != NONE;
        }

        boolean hides(int cell) {
            return blendMode == 'n' && covers(cell);
        }

        boolean canBeMerged() {
            return blendMode == 'n' && visible;
        }

        int toneOver(int below, int cell) {
            int tone = visible ? toneAt(cell) : NONE;
            return tone == NONE ? below : blend(blendMode, below, tone);
        }

        int countTones() {
            int count = 0;
            for (int cell = 0; cell < tones.length; cell++) {
                if (tones[cell] != NONE) {
                    count++;
                }
            }
            return count;
        }

        int countCellsUnlike(Layer other) {
            int count = 0;
            for (int cell = 0; cell < tones.length; cell++) {
                if (tones[cell] != other.toneAt(cell)) {
                    count++;
                }
            }
            return count;
        }

        /** Answers in how many of the cells there was nothing before. */
        int fillRectangle(int left, int upper, int right, int lower, int tone) {
            int before = countTones();
            for (int y = upper; y <= lower; y++) {
                for (int x = left; x <= right; x++) {
                    setTone(cellNumber(x, y), tone);
                }
            }
            return countTones() - before;
        }

        /** Answers in how many of the cells there was a tone before. */
        int clearCircle(int centreX, int centreY, int radius) {
            int before = countTones();
            for (int cell = 0; cell < tones.length; cell++) {
                int dx = cell % COLUMNS - centreX;
                int dy = cell / COLUMNS - centreY;
                if (dx * dx + dy * dy <= radius * radius) {
                    tones[cell] = NONE;
                }
            }
            return before - countTones();
        }

        void coverWith(Layer upper) {
            for (int cell = 0; cell < tones.length; cell++) {
                int tone = upper.toneAt(cell);
                if (tone != NONE) {
                    tones[cell] = tone;
                }
            }
        }

        /** Puts the shadow of another layer, which falls a row lower, into this one. */
        void takeShadowOf(Layer other, int shift) {
            for (int cell = 0; cell < CELLS; cell++) {
                int x = cell % COLUMNS + shift;
                int y = cell / COLUMNS + 1;
                if (other.toneAt(cell) != NONE && isCell(x, y)) {
                    setTone(cellNumber(x, y), SHADOW_TONE);
                }
            }
        }
    }

    /**
     * All that a call can change and undo can bring back: the layers from the bottom to the top, and both sums.
     * All six layers are made at once and used again; those from count on are not in use.
     */
    private static final class Layers {
        private final Layer[] stack = new Layer[MOST_LAYERS];
        private int count = 0;
        private int paintedSum = 0;
        private int erasedSum = 0;

        Layers() {
            for (int i = 0; i < stack.length; i++) {
                stack[i] = new Layer();
            }
        }

        /** Answers null if there is no such layer. */
        Layer at(int position) {
            return position >= 0 && position < count && position < stack.length ? stack[position] : null;
        }

        void copyFrom(Layers other) {
            count = other.count;
            paintedSum = other.paintedSum;
            erasedSum = other.erasedSum;
            for (int i = 0; i < count; i++) {
                Layer mine = at(i);
                Layer theirs = other.at(i);
                if (mine != null && theirs != null) {
                    mine.copyFrom(theirs);
                }
            }
        }

        int addOnTop(char newMode) {
            if (!isMode(newMode)) {
                return WRONG_ARGUMENT;
            }
            return beginLayer(newMode) == null ? WRONG_STATE : count - 1;
        }

        /** Answers the new layer on top, or null if there are 6 layers. */
        private Layer beginLayer(char newMode) {
            if (count >= MOST_LAYERS) {
                return null;
            }
            count++;
            Layer added = at(count - 1);
            if (added != null) {
                added.begin(newMode);
            }
            return added;
        }

        int takeAway(int position) {
            if (at(position) == null) {
                return NO_SUCH_PLACE;
            }
            // At the top it is out of use, and the next layer that is added can have its place.
            shift(position, count - 1);
            count--;
            return count;
        }

        int paintRectangle(int position, int left, int upper, int right, int lower, int tone) {
            Layer layer = at(position);
            if (layer == null || !isCell(left, upper) || !isCell(right, lower)) {
                return NO_SUCH_PLACE;
            }
            if (left > right || upper > lower || !isTone(tone)) {
                return WRONG_ARGUMENT;
            }
            paintedSum += (right - left + 1) * (lower - upper + 1);
            return layer.fillRectangle(left, upper, right, lower, tone);
        }

        int eraseCircle(int position, int x, int y, int radius) {
            Layer layer = at(position);
            if (layer == null || !isCell(x, y)) {
                return NO_SUCH_PLACE;
            }
            if (radius < 0 || radius > LARGEST_RADIUS) {
                return WRONG_ARGUMENT;
            }
            int erased = layer.clearCircle(x, y, radius);
            erasedSum += erased;
            return erased;
        }

        int turnVisible(int position, boolean visible) {
            Layer layer = at(position);
            if (layer == null) {
                return NO_SUCH_PLACE;
            }
            if (layer.visible == visible) {
                return WRONG_STATE;
            }
            layer.visible = visible;
            return countVisible();
        }

        /** Takes a layer out and puts it back; those in between go one position down or up. */
        void shift(int from, int to) {
            Layer moved = at(from);
            if (moved == null || at(to) == null) {
                return;
            }
            for (int i = from; i < to; i++) {
                stack[i] = stack[i + 1];
            }
            for (int i = from; i > to; i--) {
                stack[i] = stack[i - 1];
            }
            stack[to] = moved;
        }

        int mergeWithLower(int position) {
            Layer upper = at(position);
            if (upper == null) {
                return NO_SUCH_PLACE;
            }
            Layer lower = at(position - 1);
            if (lower == null) {
                return NOTHING_BELOW;
            }
            if (!upper.canBeMerged() || !lower.canBeMerged()) {
                return NOT_MERGEABLE;
            }
            lower.coverWith(upper);
            takeAway(position);
            return lower.countTones();
        }

        int addShadow(int position, int hour) {
            Layer layer = at(position);
            if (layer == null) {
                return NO_SUCH_PLACE;
            }
            if (hour < FIRST_HOUR || hour > LAST_HOUR) {
                return WRONG_ARGUMENT;
            }
            Layer shadow = beginLayer('m');
            if (shadow == null) {
                return WRONG_STATE;
            }
            shadow.takeShadowOf(layer, hour - NOON);
            int cells = shadow.countTones();
            paintedSum += cells;
            return cells;
        }

        int countVisible() {
            int visible = 0;
            for (int i = 0; i < count; i++) {
                Layer layer = at(i);
                if (layer != null && layer.visible) {
                    visible++;
                }
            }
            return visible;
        }

        int countCovering(int cell) {
            int covering = 0;
            for (int i = 0; i < count; i++) {
                Layer layer = at(i);
                if (layer != null && layer.covers(cell)) {
                    covering++;
                }
            }
            return covering;
        }

        int countCoveredCells() {
            int covered = 0;
            for (int cell = 0; cell < CELLS; cell++) {
                if (countCovering(cell) > 0) {
                    covered++;
                }
            }
            return covered;
        }

        int uppermostCovering(int cell) {
            for (int i = count - 1; i >= 0; i--) {
                Layer layer = at(i);
                if (layer != null && layer.covers(cell)) {
                    return i;
                }
            }
            return NONE;
        }

        int toneFromTop(int cell) {
            for (int i = count - 1; i >= 0; i--) {
                Layer layer = at(i);
                if (layer != null && layer.hides(cell)) {
                    return toneFrom(i, cell);
                }
            }
            return toneFrom(BOTTOM, cell);
        }

        /** The tone that would be seen in a cell if there were no layers below the lowest. */
        int toneFrom(int lowest, int cell) {
            int tone = WHITE;
            for (int i = lowest; i < count; i++) {
                Layer layer = at(i);
                if (layer != null) {
                    tone = layer.toneOver(tone, cell);
                }
            }
            return tone;
        }

        /** Answers NONE if there is no such rank. */
        int positionOfRank(int rank) {
            for (int i = 0; i < count; i++) {
                if (countAhead(i) == rank) {
                    return i;
                }
            }
            return NONE;
        }

        /** How many layers stand before a layer in the order by painted cells. */
        private int countAhead(int position) {
            int own = tonesOf(position);
            int ahead = 0;
            for (int i = 0; i < count; i++) {
                int others = tonesOf(i);
                if (others > own || others == own && i < position) {
                    ahead++;
                }
            }
            return ahead;
        }

        private int tonesOf(int position) {
            Layer layer = at(position);
            return layer == null ? 0 : layer.countTones();
        }
    }

    /** The latest states, of which at most 8 can be brought back, in a ring with one more slot for the next. */
    private static final class History {
        private final Layers[] ring = new Layers[MOST_UNDO + 1];
        private int next = 0;
        private int size = 0;

        History() {
            for (int i = 0; i < ring.length; i++) {
                ring[i] = new Layers();
            }
        }

        private Layers nextSlot() {
            return next >= 0 && next < ring.length ? ring[next] : null;
        }

        /** Keeps the state from before a call; it counts only when the call has returned normally: see commit. */
        void prepare(Layers now) {
            Layers slot = nextSlot();
            if (slot != null) {
                slot.copyFrom(now);
            }
        }

        void commit() {
            next = next + 1 < ring.length ? next + 1 : 0;
            size = Math.min(size + 1, MOST_UNDO);
        }

        void fetchPrepared(Layers into) {
            Layers slot = nextSlot();
            if (slot != null) {
                into.copyFrom(slot);
            }
        }

        void stepBack(Layers into) {
            next = next > 0 ? next - 1 : ring.length - 1;
            size--;
            fetchPrepared(into);
        }

        void forgetAll() {
            size = 0;
        }
    }

    /** The tones that are seen in all cells, and what is found out about them as a whole. */
    private static final class FlatWall {
        private static final int TABLE_WIDTH = COLUMNS + 1;

        private final int[] tones = new int[CELLS];
        /** The sums from the upper left corner, with a row and a column of zeros before the first ones. */
        private final int[] table = new int[TABLE_WIDTH * (ROWS + 1)];
        private final boolean[] reached = new boolean[CELLS];
        /** The cells of the area that is being filled, in the order in which they were reached. */
        private final int[] queue = new int[CELLS];
        private int queued = 0;
        /** For each cell another one of its set, or itself if it stands for the set. */
        private final int[] parents = new int[CELLS];

        void flatten(Layers layers) {
            for (int cell = 0; cell < tones.length; cell++) {
                tones[cell] = layers.toneFrom(BOTTOM, cell);
            }
        }

        int countCellsUnlike(Layers layers) {
            int count = 0;
            for (int cell = 0; cell < tones.length; cell++) {
                if (tones[cell] != layers.toneFrom(BOTTOM, cell)) {
                    count++;
                }
            }
            return count;
        }

        int countCellsUnlikeFromTop(Layers layers) {
            int count = 0;
            for (int cell = 0; cell < tones.length; cell++) {
                if (tones[cell] != layers.toneFromTop(cell)) {
                    count++;
                }
            }
            return count;
        }

        private int toneAt(int cell) {
            return cell >= 0 && cell < tones.length ? tones[cell] : NONE;
        }

        int countTone(int tone) {
            int count = 0;
            for (int cell = 0; cell < tones.length; cell++) {
                if (tones[cell] == tone) {
                    count++;
                }
            }
            return count;
        }

        int mostFrequentTone() {
            int best = 0;
            int most = 0;
            for (int tone = 0; tone <= WHITE; tone++) {
                int count = countTone(tone);
                if (count > most) {
                    best = tone;
                    most = count;
                }
            }
            return best;
        }

        int sumCellByCell(int left, int upper, int right, int lower) {
            int sum = 0;
            for (int y = upper; y <= lower; y++) {
                for (int x = left; x <= right; x++) {
                    sum += toneAt(cellNumber(x, y));
                }
            }
            return sum;
        }

        int sumOfAllCells() {
            return sumCellByCell(0, 0, COLUMNS - 1, ROWS - 1);
        }

        int sumFromTable(int left, int upper, int right, int lower) {
            fillTable();
            return sumBefore(right + 1, lower + 1) - sumBefore(left, lower + 1)
                    - sumBefore(right + 1, upper) + sumBefore(left, upper);
        }

        private void fillTable() {
            for (int y = 0; y < ROWS; y++) {
                for (int x = 0; x < COLUMNS; x++) {
                    int place = (y + 1) * TABLE_WIDTH + x + 1;
                    if (place < table.length) {
                        table[place] = toneAt(cellNumber(x, y)) + sumBefore(x, y + 1)
                                + sumBefore(x + 1, y) - sumBefore(x, y);
                    }
                }
            }
        }

        /** The sum of the tones of all cells whose column is less than x and whose row is less than y. */
        private int sumBefore(int x, int y) {
            int place = y * TABLE_WIDTH + x;
            return place >= 0 && place < table.length ? table[place] : 0;
        }

        int rowWithLeastSum() {
            int darkest = 0;
            int least = sumCellByCell(0, 0, COLUMNS - 1, 0);
            for (int y = 1; y < ROWS; y++) {
                int sum = sumCellByCell(0, y, COLUMNS - 1, y);
                if (sum < least) {
                    darkest = y;
                    least = sum;
                }
            }
            return darkest;
        }

        boolean equalsItsMirrorImage() {
            for (int y = 0; y < ROWS; y++) {
                for (int x = 0; x < COLUMNS / 2; x++) {
                    if (toneAt(cellNumber(x, y)) != toneAt(cellNumber(COLUMNS - 1 - x, y))) {
                        return false;
                    }
                }
            }
            return true;
        }

        int sizeOfAreaAt(int cell) {
            reachNothing();
            return fillAreaAt(cell);
        }

        int countAreasByFilling() {
            reachNothing();
            int count = 0;
            for (int cell = 0; cell < CELLS; cell++) {
                if (fillAreaAt(cell) > 0) {
                    count++;
                }
            }
            return count;
        }

        int sizeOfLargestArea() {
            reachNothing();
            int largest = 0;
            for (int cell = 0; cell < CELLS; cell++) {
                largest = Math.max(largest, fillAreaAt(cell));
            }
            return largest;
        }

        private void reachNothing() {
            for (int cell = 0; cell < reached.length; cell++) {
                reached[cell] = false;
            }
        }

        /** Answers the size of the area, or 0 if it was filled before. */
        private int fillAreaAt(int start) {
            int tone = toneAt(start);
            queued = 0;
            reach(start, tone);
            for (int i = 0; i < queued && i < queue.length; i++) {
                int cell = queue[i];
                int x = cell % COLUMNS;
                if (x > 0) {
                    reach(cell - 1, tone);
                }
                if (x < COLUMNS - 1) {
                    reach(cell + 1, tone);
                }
                reach(cell - COLUMNS, tone);
                reach(cell + COLUMNS, tone);
            }
            return queued;
        }

        private void reach(int cell, int tone) {
            if (cell < 0 || cell >= reached.length || queued < 0 || queued >= queue.length) {
                return;
            }
            if (!reached[cell] && toneAt(cell) == tone) {
                reached[cell] = true;
                queue[queued] = cell;
                queued++;
            }
        }

        int countAreasByJoining() {
            for (int cell = 0; cell < parents.length; cell++) {
                parents[cell] = cell;
            }
            int count = CELLS;
            for (int cell = 0; cell < CELLS; cell++) {
                if (cell % COLUMNS > 0 && joins(cell, cell - 1)) {
                    count--;
                }
                if (cell >= COLUMNS && joins(cell, cell - COLUMNS)) {
                    count--;
                }
            }
            return count;
        }

        /** Joins the sets of two cells with the same tone; answers whether they were different sets. */
        private boolean joins(int cell, int neighbour) {
            if (toneAt(cell) != toneAt(neighbour)) {
                return false;
            }
            int first = rootOf(cell);
            int second = rootOf(neighbour);
            if (first == second || first < 0 || first >= parents.length) {
                return false;
            }
            parents[first] = second;
            return true;
        }

        private int rootOf(int cell) {
            int root = cell;
            for (int step = 0; step < CELLS && root >= 0 && root < parents.length; step++) {
                if (parents[root] == root) {
                    return root;
                }
                root = parents[root];
            }
            return root;
        }
    }

    /** The input buffer, and the command of it that was read last. */
    private static final class CommandText {
        private static final int LAYER = 0;
        private static final int PAINT = 1;
        private static final int ERASE = 2;
        private static final int HIDE = 3;
        private static final int SHOW = 4;
        private static final int MERGE = 5;
        private static final int MOVE = 6;
        private static final int CAST = 7;
        private static final int KINDS = 8;
        private static final char SEPARATOR = ';';
        /** Signs of a form: the letter of a mode, a digit, and a further digit that may be left out. */
        private static final char MODE = '*';
        private static final char DIGIT = '#';
        private static final char FURTHER_DIGIT = '+';
        private static final int MOST_NUMBERS = 6;

        private final char[] text = new char[INPUT_LIMIT];
        private int length = 0;
        /** The index of the next character to be read; after a failed reading, the error position. */
        private int place = 0;
        private int kind = LAYER;
        /** What stands at the modes and digits of the form, from left to right. */
        private final int[] numbers = new int[MOST_NUMBERS];
        private int numberCount = 0;

        private static String formOf(int kind) {
            switch (kind) {
                case LAYER:
                    return "layer *";
                case PAINT:
                    return "paint # #### #+";
                case ERASE:
                    return "erase # ## #";
                case HIDE:
                    return "hide #";
                case SHOW:
                    return "show #";
                case MERGE:
                    return "merge #";
                case MOVE:
                    return "move # #";
                default:
                    return "cast # #+";
            }
        }

        boolean isFull() {
            return length >= INPUT_LIMIT;
        }

        int append(char character) {
            if (length >= 0 && length < text.length) {
                text[length] = character;
                length++;
            }
            return length;
        }

        void clear() {
            length = 0;
        }

        void rewind() {
            place = 0;
        }

        /** Answers the number of commands in the whole text, or NONE if it is malformed. */
        int countCommands() {
            rewind();
            for (int count = 1; count <= INPUT_LIMIT; count++) {
                if (!readCommand()) {
                    return NONE;
                }
                if (place >= length) {
                    return count;
                }
                if (!skipSeparator()) {
                    return NONE;
                }
            }
            return NONE;
        }

        boolean skipSeparator() {
            boolean isThere = isNext(SEPARATOR);
            if (isThere) {
                place++;
            }
            return isThere;
        }

        /** Tries all forms; if none fits, the one that goes furthest tells the error position. */
        boolean readCommand() {
            int start = place;
            int furthest = start;
            for (int tried = 0; tried < KINDS; tried++) {
                place = start;
                kind = tried;
                if (readForm(formOf(tried))) {
                    return true;
                }
                furthest = Math.max(furthest, place);
            }
            place = furthest;
            return false;
        }

        private boolean readForm(String form) {
            numberCount = 0;
            for (int i = 0; i < form.length(); i++) {
                char sign = form.charAt(i);
                if (isNext(sign)) {
                    take(sign);
                } else if (sign != FURTHER_DIGIT) {
                    return false;
                }
            }
            return true;
        }

        /** Whether the next character is one that the sign of a form stands for. */
        private boolean isNext(char sign) {
            if (place < 0 || place >= length || place >= text.length) {
                return false;
            }
            char character = text[place];
            if (sign == MODE) {
                return isMode(character);
            }
            if (sign == DIGIT || sign == FURTHER_DIGIT) {
                return character >= '0' && character <= '9';
            }
            return character == sign;
        }

        private void take(char sign) {
            if (place < 0 || place >= text.length) {
                return;
            }
            char character = text[place];
            place++;
            if (sign == MODE) {
                addNumber(character);
            } else if (sign == DIGIT) {
                addNumber(character - '0');
            } else if (sign == FURTHER_DIGIT) {
                numberCount--;
                addNumber(number(numberCount) * 10 + character - '0');
            }
        }

        private void addNumber(int value) {
            if (numberCount >= 0 && numberCount < numbers.length) {
                numbers[numberCount] = value;
                numberCount++;
            }
        }

        int number(int index) {
            return index >= 0 && index < numbers.length ? numbers[index] : 0;
        }
    }

    /** The output, as it is replaced by writeRow and writeLayers. */
    private static final class Output {
        private final char[] text = new char[OUTPUT_LIMIT];
        private int length = 0;

        void clear() {
            length = 0;
        }

        void put(char character) {
            if (length >= 0 && length < text.length) {
                text[length] = character;
                length++;
            }
        }

        void putHexDigit(int tone) {
            put((char) (tone < 10 ? '0' + tone : 'a' + tone - 10));
        }

        /** Numbers of cells have at most two digits. */
        void putNumber(int number) {
            if (number >= 10) {
                put((char) ('0' + number / 10));
            }
            put((char) ('0' + number % 10));
        }

        char charAt(int index) {
            return index >= 0 && index < text.length ? text[index] : ' ';
        }
    }
}
