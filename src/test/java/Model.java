import java.util.ArrayDeque;
import java.util.ArrayList;
import java.util.Comparator;
import java.util.Deque;
import java.util.HashSet;
import java.util.List;
import java.util.Map;
import java.util.NoSuchElementException;
import java.util.Set;
import java.util.TreeMap;
import java.util.regex.Matcher;
import java.util.regex.Pattern;
import java.util.stream.Collectors;
import java.util.stream.IntStream;

/** The document once more, written with the Java library and without regard to cost, to be compared with the class. */
final class Model {
    private static final Pattern COMMAND = Pattern.compile(
            "layer ([nmsdla])|(?:hide|show|merge) ([0-9])|paint ([0-9]) ([0-9])([0-9])([0-9])([0-9]) ([0-9]{1,2})"
            + "|erase ([0-9]) ([0-9])([0-9]) ([0-9])|move ([0-9]) ([0-9])|cast ([0-9]) ([0-9]{1,2})");
    private static final String ONE = COMMAND.pattern().replaceAll("\\((?!\\?)", "(?:");
    private static final Pattern TEXT = Pattern.compile("(?:" + ONE + ")(?:;(?:" + ONE + "))*");

    private record Sheet(char mode, boolean visible, Map<Integer, Integer> tones) {
        Sheet copy() {
            return new Sheet(mode, visible, new TreeMap<>(tones));
        }

        Sheet turned() {
            return new Sheet(mode, !visible, tones);
        }
    }

    private record State(List<Sheet> sheets, int painted, int erased) {
    }

    private List<Sheet> sheets = new ArrayList<>();
    private int painted = 0;
    private int erased = 0;
    private final Deque<State> past = new ArrayDeque<>();
    private State saved = null;
    private String input = "";
    private String output = "";
    private Integer errorPosition = null;
    private Integer failedCommand = null;

    private State state() {
        return new State(sheets.stream().map(Sheet::copy).collect(Collectors.toList()), painted, erased);
    }

    private void become(State state) {
        sheets = state.sheets().stream().map(Sheet::copy).collect(Collectors.toCollection(ArrayList::new));
        painted = state.painted();
        erased = state.erased();
    }

    private static void index(boolean isThere) {
        if (!isThere) {
            throw new IndexOutOfBoundsException();
        }
    }

    private static void argument(boolean isRight) {
        if (!isRight) {
            throw new IllegalArgumentException();
        }
    }

    private static void state(boolean isRight) {
        if (!isRight) {
            throw new IllegalStateException();
        }
    }

    private static void element(boolean isThere) {
        if (!isThere) {
            throw new NoSuchElementException();
        }
    }

    private boolean isLayer(int layer) {
        return layer >= 0 && layer < sheets.size();
    }

    private static boolean isColumn(int x) {
        return x >= 0 && x <= 7;
    }

    private static boolean isRow(int y) {
        return y >= 0 && y <= 5;
    }

    /** A change by its name; answers what it returns and throws what it throws, without recording. */
    private int change(String name, int... a) {
        switch (name) {
            case "addLayer":
                argument("nmsdla".indexOf((char) a[0]) >= 0);
                state(sheets.size() < 6);
                sheets.add(new Sheet((char) a[0], true, new TreeMap<>()));
                return sheets.size() - 1;
            case "removeLayer":
                index(isLayer(a[0]));
                sheets.remove(a[0]);
                return sheets.size();
            case "paint":
                return paint(a[0], a[1], a[2], a[3], a[4], a[5]);
            case "erase":
                return erase(a[0], a[1], a[2], a[3]);
            case "hide":
            case "show":
                index(isLayer(a[0]));
                state(sheets.get(a[0]).visible() == name.equals("hide"));
                sheets.set(a[0], sheets.get(a[0]).turned());
                return (int) sheets.stream().filter(Sheet::visible).count();
            case "moveLayer":
                index(isLayer(a[0]) && isLayer(a[1]));
                List<Integer> before = flat();
                sheets.add(a[1], sheets.remove(a[0]));
                List<Integer> after = flat();
                return (int) IntStream.range(0, 48).filter(c -> !before.get(c).equals(after.get(c))).count();
            case "mergeDown":
                return mergeDown(a[0]);
            case "castShadow":
                return castShadow(a[0], a[1]);
            default:
                throw new AssertionError(name);
        }
    }

    private int paint(int layer, int left, int upper, int right, int lower, int tone) {
        index(isLayer(layer) && isColumn(left) && isRow(upper) && isColumn(right) && isRow(lower));
        argument(left <= right && upper <= lower && tone >= 0 && tone <= 15);
        int fresh = 0;
        for (int x = left; x <= right; x++) {
            for (int y = upper; y <= lower; y++) {
                painted++;
                fresh += sheets.get(layer).tones().put(10 * y + x, tone) == null ? 1 : 0;
            }
        }
        return fresh;
    }

    private int erase(int layer, int x, int y, int radius) {
        index(isLayer(layer) && isColumn(x) && isRow(y));
        argument(radius >= 0 && radius <= 9);
        Map<Integer, Integer> tones = sheets.get(layer).tones();
        int before = tones.size();
        tones.keySet().removeIf(c -> Math.hypot(c % 10 - x, c / 10 - y) < radius + 0.001);
        erased += before - tones.size();
        return before - tones.size();
    }

    private int mergeDown(int layer) {
        index(isLayer(layer));
        element(layer > 0);
        for (Sheet sheet : sheets.subList(layer - 1, layer + 1)) {
            if (sheet.mode() != 'n' || !sheet.visible()) {
                throw new UnsupportedOperationException();
            }
        }
        sheets.get(layer - 1).tones().putAll(sheets.remove(layer).tones());
        return sheets.get(layer - 1).tones().size();
    }

    private int castShadow(int layer, int hour) {
        index(isLayer(layer));
        argument(hour >= 6 && hour <= 18);
        state(sheets.size() < 6);
        Map<Integer, Integer> shadow = new TreeMap<>();
        for (int cell : sheets.get(layer).tones().keySet()) {
            int x = cell % 10 + hour - 12;
            int y = cell / 10 + 1;
            if (isColumn(x) && isRow(y)) {
                shadow.put(10 * y + x, 8);
            }
        }
        sheets.add(new Sheet('m', true, shadow));
        painted += shadow.size();
        return shadow.size();
    }

    /** A change that is recorded when it returns. */
    int recorded(String name, int... a) {
        State before = state();
        int answer = change(name, a);
        record(before);
        return answer;
    }

    private void record(State before) {
        past.addLast(before);
        if (past.size() > 8) {
            past.removeFirst();
        }
    }

    private List<Integer> flat() {
        List<Integer> tones = new ArrayList<>();
        for (int y = 0; y < 6; y++) {
            for (int x = 0; x < 8; x++) {
                tones.add(seen(x, y));
            }
        }
        return tones;
    }

    int seen(int x, int y) {
        index(isColumn(x) && isRow(y));
        int b = 15;
        for (Sheet sheet : sheets) {
            Integer tone = sheet.tones().get(10 * y + x);
            if (tone != null && sheet.visible()) {
                int t = tone;
                b = switch (sheet.mode()) {
                    case 'm' -> b * t / 15;
                    case 's' -> 15 - (15 - b) * (15 - t) / 15;
                    case 'd' -> b < t ? b : t;
                    case 'l' -> b > t ? b : t;
                    case 'a' -> (b + t) / 2;
                    default -> t;
                };
            }
        }
        return b;
    }

    private List<Integer> covering(int x, int y) {
        index(isColumn(x) && isRow(y));
        return IntStream.range(0, sheets.size()).boxed()
                .filter(i -> sheets.get(i).visible() && sheets.get(i).tones().containsKey(10 * y + x))
                .collect(Collectors.toList());
    }

    private List<Set<Integer>> areas() {
        List<Integer> flat = flat();
        List<Set<Integer>> areas = new ArrayList<>();
        for (int cell = 0; cell < 48; cell++) {
            int c = cell;
            if (areas.stream().noneMatch(area -> area.contains(c))) {
                Set<Integer> area = new HashSet<>(Set.of(c));
                while (area.addAll(IntStream.range(0, 48).boxed()
                        .filter(o -> flat.get(o).equals(flat.get(c)) && area.stream().anyMatch(i -> beside(i, o)))
                        .collect(Collectors.toList()))) {
                    continue;
                }
                areas.add(area);
            }
        }
        return areas;
    }

    private static boolean beside(int one, int other) {
        return Math.abs(one % 8 - other % 8) + Math.abs(one / 8 - other / 8) == 1;
    }

    private int sum(int left, int upper, int right, int lower) {
        index(isColumn(left) && isRow(upper) && isColumn(right) && isRow(lower));
        argument(left <= right && upper <= lower);
        int sum = 0;
        for (int y = upper; y <= lower; y++) {
            for (int x = left; x <= right; x++) {
                sum += seen(x, y);
            }
        }
        return sum;
    }

    /** The answer of a question by its name. */
    Object asked(String name, int... a) {
        switch (name) {
            case "layerCount":
                return sheets.size();
            case "mode":
                index(isLayer(a[0]));
                return sheets.get(a[0]).mode();
            case "isVisible":
                index(isLayer(a[0]));
                return sheets.get(a[0]).visible();
            case "hasTone":
                index(isLayer(a[0]) && isColumn(a[1]) && isRow(a[2]));
                return sheets.get(a[0]).tones().containsKey(10 * a[2] + a[1]);
            case "tone":
                index(isLayer(a[0]) && isColumn(a[1]) && isRow(a[2]));
                element(sheets.get(a[0]).tones().containsKey(10 * a[2] + a[1]));
                return sheets.get(a[0]).tones().get(10 * a[2] + a[1]);
            case "painted":
                index(isLayer(a[0]));
                return sheets.get(a[0]).tones().size();
            case "visibleCount":
                return (int) sheets.stream().filter(Sheet::visible).count();
            case "seen":
            case "seenFromTop":
                return seen(a[0], a[1]);
            case "topLayer":
                List<Integer> covering = covering(a[0], a[1]);
                element(!covering.isEmpty());
                return covering.get(covering.size() - 1);
            case "coveringLayers":
                return covering(a[0], a[1]).size();
            case "differentCells":
                index(isLayer(a[0]) && isLayer(a[1]));
                return (int) IntStream.range(0, 58).boxed().filter(c -> {
                    Integer one = sheets.get(a[0]).tones().get(c);
                    Integer other = sheets.get(a[1]).tones().get(c);
                    return one == null ? other != null : !one.equals(other);
                }).count();
            case "layerByPaint":
                element(isLayer(a[0]));
                return IntStream.range(0, sheets.size()).boxed()
                        .sorted(Comparator.comparing(i -> -sheets.get(i).tones().size()))
                        .collect(Collectors.toList()).get(a[0]);
            case "paintedCells":
                return painted;
            case "erasedCells":
                return erased;
            default:
                return askedOfFlat(name, a);
        }
    }

    private Object askedOfFlat(String name, int... a) {
        switch (name) {
            case "cellsWithTone":
                argument(a[0] >= 0 && a[0] <= 15);
                return (int) flat().stream().filter(t -> t == a[0]).count();
            case "commonestTone":
                return flat().stream().collect(Collectors.groupingBy(t -> t, TreeMap::new, Collectors.counting()))
                        .entrySet().stream().sorted(Comparator.comparing(e -> -e.getValue()))
                        .findFirst().get().getKey();
            case "sumOfTones":
            case "sumOfTonesByTable":
                return sum(a[0], a[1], a[2], a[3]);
            case "areaSize":
                index(isColumn(a[0]) && isRow(a[1]));
                return areas().stream().filter(s -> s.contains(8 * a[1] + a[0])).findFirst().get().size();
            case "areaCount":
            case "areaCountByJoining":
                return areas().size();
            case "largestArea":
                return areas().stream().mapToInt(Set::size).max().getAsInt();
            case "darkestRow":
                return IntStream.range(0, 6).boxed().min(Comparator.comparing(y -> sum(0, y, 7, y))).get();
            case "isMirrored":
                return IntStream.range(0, 48).allMatch(c -> seen(c % 8, c / 8) == seen(7 - c % 8, c / 8));
            case "meanTone":
                return (double) sum(0, 0, 7, 5) / 48.0;
            case "coveredShare":
                return (float) IntStream.range(0, 48).filter(c -> !covering(c % 8, c / 8).isEmpty()).count() / 48.0f;
            case "isConsistent":
                return true;
            default:
                return askedOfTexts(name, a);
        }
    }

    private Object askedOfTexts(String name, int... a) {
        switch (name) {
            case "errorPosition":
                element(errorPosition != null);
                return errorPosition;
            case "failedCommand":
                element(failedCommand != null);
                return failedCommand;
            case "writeRow":
                index(isRow(a[0]));
                output = IntStream.range(0, 8).mapToObj(x -> Integer.toHexString(seen(x, a[0])))
                        .collect(Collectors.joining());
                return output.length();
            case "writeLayers":
                output = sheets.stream().map(s -> s.mode() + (s.visible() ? "" : "-") + s.tones().size())
                        .collect(Collectors.joining(" "));
                return output.length();
            case "outputChar":
                index(a[0] >= 0 && a[0] < output.length());
                return output.charAt(a[0]);
            case "feed":
                state(input.length() < 60);
                input += (char) a[0];
                return input.length();
            case "runCommands":
                return runCommands();
            case "undoCount":
                return past.size();
            case "undo":
                state(!past.isEmpty());
                become(past.removeLast());
                return past.size();
            case "save":
                saved = state();
                return sheets.size();
            case "restore":
                state(saved != null);
                become(saved);
                past.clear();
                return sheets.size();
            default:
                throw new AssertionError(name);
        }
    }

    private int runCommands() {
        String text = input;
        input = "";
        if (!TEXT.matcher(text).matches()) {
            errorPosition = 0;
            while (errorPosition < text.length() && canContinue(text.substring(0, errorPosition + 1))) {
                errorPosition++;
            }
            throw new IllegalArgumentException();
        }
        State before = state();
        String[] commands = text.split(";");
        for (int i = 0; i < commands.length; i++) {
            try {
                carryOut(commands[i]);
            } catch (RuntimeException failure) {
                become(before);
                failedCommand = i;
                throw new UnsupportedOperationException();
            }
        }
        record(before);
        return commands.length;
    }

    /** Whether a well-formed text can begin like this: the pattern fits, or fails for want of more characters only. */
    private static boolean canContinue(String start) {
        Matcher matcher = TEXT.matcher(start);
        return matcher.matches() || matcher.hitEnd();
    }

    private void carryOut(String command) {
        Matcher matcher = COMMAND.matcher(command);
        matcher.matches();
        int[] numbers = IntStream.rangeClosed(1, matcher.groupCount()).mapToObj(matcher::group)
                .filter(group -> group != null)
                .mapToInt(group -> Character.isDigit(group.charAt(0)) ? Integer.parseInt(group) : group.charAt(0))
                .toArray();
        String keyword = command.substring(0, command.indexOf(' '));
        change(Map.of("layer", "addLayer", "move", "moveLayer", "merge", "mergeDown", "cast", "castShadow")
                .getOrDefault(keyword, keyword), numbers);
    }
}
