import java.util.NoSuchElementException;

/** The edges that promises 39 to 42 and the paragraph "Commands" name, a test each. */
public final class CommandTextEdgesTest {
    private static final Class<IllegalArgumentException> MALFORMED = IllegalArgumentException.class;
    private static final Class<UnsupportedOperationException> FAILED = UnsupportedOperationException.class;
    /** One of each form; tones and hours with two digits. */
    private static final String[] COMMANDS = {"layer n", "paint 0 1234 15", "erase 0 34 2", "hide 0", "show 0",
        "merge 1", "move 0 1", "cast 0 12"};

    public static void main(String[] arguments) {
        promise39EachLength();
        promise39SixtyCharacters();
        promise39AnyCharacter();
        promise39EmptyAfterwards();
        promise40OneCommand();
        promise40MostCommands();
        emptyText();
        emptyCommand();
        textThatEndsTooEarly();
        wrongCharacter();
        onePlaceTooMany();
        keywordsLetterByLetter();
        keywordsThatBeginAlike();
        blanks();
        modesOfThoseAbove();
        tonesOfOneOrTwoDigits();
        hoursOfOneOrTwoDigits();
        otherNumbersOfOneDigit();
        signsBesideTheDigits();
        errorPositionInALaterCommand();
        errorPositionAtTheLimit();
        promise40MalformedBeforeFailing();
        promise40StateFromBefore();
        promise40EachExceptionOfACommand();
        promise40EmptyInAllCases();
        promise40RecordedAsOne();
        promise41Latest();
        promise42FirstAndLastIndex();
        promise42Latest();
        Check.end();
    }

    /** What comes of a text on a new wall with two layers. */
    private static void malformedAt(String text, int position) {
        ShadowWall wall = Walls.with("nn");
        Walls.runRefused(wall, text, MALFORMED);
        Check.same("error position of \"" + text + "\"", Picture.errorPosition(wall), "" + position);
        Check.same("what \"" + text + "\" has done", wall.layerCount() + " " + wall.undoCount(), "2 2");
    }

    private static void failsAt(String text, int command) {
        ShadowWall wall = Walls.with("nn");
        String before = Picture.layers(wall);
        Walls.runRefused(wall, text, FAILED);
        Check.same("failed command of \"" + text + "\"", Picture.failedCommand(wall), "" + command);
        Check.same("error position after \"" + text + "\"", Picture.errorPosition(wall), "none");
        Check.same("the layers after \"" + text + "\"", Picture.layers(wall), before);
    }

    /** "Returns the new length of the input buffer." */
    private static void promise39EachLength() {
        ShadowWall wall = new ShadowWall();
        for (int length = 1; length <= 60; length++) {
            Check.same("feed", wall.feed('x'), length);
        }
    }

    /** "if the input buffer holds 60 characters": what is refused is not appended. */
    private static void promise39SixtyCharacters() {
        ShadowWall wall = Walls.with("n");
        String text = "hide 0;show 0;hide 0;show 0;hide 0;show 0;hide 0;paint 0 000";
        Check.same("60 characters", text.length(), 60);
        Walls.feed(wall, text);
        Check.throwsJust("feed of the 61st", IllegalStateException.class, () -> wall.feed('0'));
        Check.throwsJust("feed of the 61st again", IllegalStateException.class, () -> wall.feed('0'));
        Check.throwsJust("the text ends too early", MALFORMED, wall::runCommands);
        Check.same("errorPosition", wall.errorPosition(), 60);
    }

    /** "any character" */
    private static void promise39AnyCharacter() {
        for (char character : new char[] {0, ' ', '\n', 127, 128, 255, 256, 0x7fff, 0x8000, 0xd800, 0xffff}) {
            ShadowWall wall = new ShadowWall();
            Check.same("feed of " + (int) character, wall.feed(character), 1);
            Check.throwsJust("it begins no text", MALFORMED, wall::runCommands);
            Check.same("errorPosition", wall.errorPosition(), 0);
        }
    }

    private static void promise39EmptyAfterwards() {
        ShadowWall wall = new ShadowWall();
        Check.same("7 characters", Walls.run(wall, "layer n"), 1);
        Check.same("the first one again", wall.feed('l'), 1);
        for (int length = 2; length <= 60; length++) {
            Check.same("feed", wall.feed('l'), length);
        }
        Check.throwsJust("60 of them", IllegalStateException.class, () -> wall.feed('l'));
    }

    /** "A text consists of one or more commands" */
    private static void promise40OneCommand() {
        String[] due = {"nnn", "nn", "nn", "nn", "nn", "n", "nn", "nnm"};
        for (int i = 0; i < COMMANDS.length; i++) {
            ShadowWall wall = Walls.with("nn");
            if (COMMANDS[i].equals("show 0")) {
                wall.hide(0);
            }
            Check.same(COMMANDS[i], Walls.run(wall, COMMANDS[i]), 1);
            Check.same("layers after " + COMMANDS[i], Walls.modes(wall), due[i]);
        }
    }

    /** "separated by semicolons": as many as 60 characters can hold. */
    private static void promise40MostCommands() {
        ShadowWall wall = Walls.with("nm");
        String text = "hide 0;show 0;hide 0;show 0;hide 0;show 0;move 0 1;cast 0 12";
        Check.same("60 characters", text.length(), 60);
        Check.same("8 commands", Walls.run(wall, text), 8);
        Check.same("the last two", Walls.modes(wall), "mnm");
        Check.same("the first of them again", Walls.run(wall, "hide 0"), 1);
        Check.same("carried out once", wall.isVisible(0) + " " + wall.visibleCount(), "false 2");
    }

    /** "or the length of the text if the text ends too early": one or more commands are none too few. */
    private static void emptyText() {
        malformedAt("", 0);
    }

    private static void emptyCommand() {
        malformedAt(";", 0);
        malformedAt(";hide 0", 0);
        malformedAt("hide 0;", 7);
        malformedAt("hide 0;;show 0", 7);
        malformedAt("hide 0;show 0;", 14);
    }

    /** Each beginning of each command, by itself and as the second command. */
    private static void textThatEndsTooEarly() {
        for (String command : COMMANDS) {
            for (int length = 0; length < command.length(); length++) {
                String start = command.substring(0, length);
                if (!start.equals("paint 0 1234 1") && !start.equals("cast 0 1")) {
                    malformedAt(start, length);
                    malformedAt("hide 0;" + start, 7 + length);
                }
            }
        }
    }

    /** "the index of the first character that cannot continue a well-formed text" */
    private static void wrongCharacter() {
        for (String command : COMMANDS) {
            for (int i = 0; i < command.length(); i++) {
                for (char wrong : new char[] {'X', ';', '*', '#', '_'}) {
                    boolean endsBefore = wrong == ';'
                            && (command.equals("paint 0 1234 15") && i == 14 || command.equals("cast 0 12") && i == 8);
                    malformedAt(command.substring(0, i) + wrong + command.substring(i + 1), endsBefore ? i + 1 : i);
                }
            }
        }
    }

    private static void onePlaceTooMany() {
        for (String command : COMMANDS) {
            malformedAt(command + "0", command.length());
            malformedAt(command + "n", command.length());
            malformedAt(command + " ", command.length());
            malformedAt(command + "+", command.length());
            malformedAt(command + command, command.length());
            malformedAt(command + ":" + command, command.length());
        }
    }

    /** "Keywords are compared letter by letter": capitals and small letters are different ones. */
    private static void keywordsLetterByLetter() {
        for (String command : COMMANDS) {
            for (int i = 0; i < command.indexOf(' '); i++) {
                malformedAt(command.substring(0, i) + Character.toUpperCase(command.charAt(i))
                        + command.substring(i + 1), i);
            }
            malformedAt(command.toUpperCase(), 0);
        }
    }

    private static void keywordsThatBeginAlike() {
        malformedAt("m", 1);
        malformedAt("morge 1", 2);
        malformedAt("meve 0 1", 2);
        malformedAt("moge 1", 2);
        malformedAt("merve 0 1", 3);
        malformedAt("hhow 0", 1);
        malformedAt("side 0", 1);
        malformedAt("lase 0 34 2", 2);
        malformedAt("mergee 1", 5);
        malformedAt("moved 0 1", 4);
        malformedAt("mov 0 1", 3);
        malformedAt("merg 1", 4);
        malformedAt("paint n", 6);
        malformedAt("layer 0", 6);
        malformedAt("move 0", 6);
        malformedAt("merge 0 1", 7);
        malformedAt("hide 0 1", 6);
        malformedAt("cast 0", 6);
        malformedAt("undo", 0);
        malformedAt("remove 0", 0);
    }

    /** "a blank": one, and no other sign. */
    private static void blanks() {
        for (String command : COMMANDS) {
            malformedAt(" " + command, 0);
            malformedAt("hide 0; " + command, 7);
            for (int i = command.indexOf(' '); i >= 0; i = command.indexOf(' ', i + 1)) {
                malformedAt(command.substring(0, i) + " " + command.substring(i), i + 1);
                malformedAt(command.substring(0, i) + command.substring(i + 1), i);
                malformedAt(command.substring(0, i) + "\t" + command.substring(i + 1), i);
                malformedAt(command.substring(0, i) + (char) 160 + command.substring(i + 1), i);
            }
        }
    }

    /** "Modes are single letters of those above" */
    private static void modesOfThoseAbove() {
        for (char mode = 0; mode < 400; mode++) {
            if (Walls.MODES.indexOf(mode) < 0) {
                malformedAt("layer " + mode, 6);
            } else {
                ShadowWall wall = new ShadowWall();
                Check.same("layer " + mode, Walls.run(wall, "layer " + mode), 1);
                Check.same("its mode", wall.mode(0), mode);
                malformedAt("layer " + mode + mode, 7);
            }
        }
        malformedAt("layer " + (char) ('n' + 256), 6);
    }

    /** "tones and hours have one or two digits": such that are out of range make the command fail. */
    private static void tonesOfOneOrTwoDigits() {
        for (int number = 0; number < 110; number++) {
            String digits = number < 100 ? "" + number : "0" + (number - 100);
            int tone = number % 100;
            if (tone > 15) {
                failsAt("paint 0 0000 " + digits, 0);
                continue;
            }
            ShadowWall wall = Walls.with("n");
            Check.same("tone " + digits, Walls.run(wall, "paint 0 7575 " + digits), 1);
            Check.same("it is there", wall.tone(0, 7, 5), tone);
        }
        malformedAt("paint 0 0000 100", 15);
        malformedAt("paint 0 0000 015", 15);
        malformedAt("paint 0 0000 1 5", 14);
        malformedAt("paint 0 0000 ", 13);
        malformedAt("paint 0 0000 ;hide 0", 13);
    }

    private static void hoursOfOneOrTwoDigits() {
        for (int number = 0; number < 110; number++) {
            String digits = number < 100 ? "" + number : "0" + (number - 100);
            int hour = number % 100;
            if (hour < 6 || hour > 18) {
                failsAt("cast 0 " + digits, 0);
                continue;
            }
            ShadowWall wall = Walls.like("77777777");
            Check.same("hour " + digits, Walls.run(wall, "cast 0 " + digits), 1);
            Check.same("it is there", wall.painted(1), 8 - Math.abs(hour - 12));
        }
        malformedAt("cast 0 100", 9);
        malformedAt("cast 0 012", 9);
        malformedAt("cast 0 ", 7);
        malformedAt("cast 0 ;hide 0", 7);
    }

    /** "all other numbers are single digits": 0 to 9, in range or not. */
    private static void otherNumbersOfOneDigit() {
        for (int digit = 2; digit <= 9; digit++) {
            failsAt("hide 1;hide " + digit, 1);
            failsAt("hide 1;show " + digit, 1);
            failsAt("hide 1;merge " + digit, 1);
            failsAt("hide 1;move " + digit + " 0", 1);
            failsAt("hide 1;move 0 " + digit, 1);
            failsAt("hide 1;cast " + digit + " 12", 1);
            failsAt("hide 1;paint " + digit + " 0000 1", 1);
            failsAt("hide 1;erase " + digit + " 00 1", 1);
        }
        failsAt("paint 0 8090 1", 0);
        failsAt("paint 0 0080 1", 0);
        failsAt("paint 0 0606 1", 0);
        failsAt("paint 0 0009 1", 0);
        failsAt("erase 0 80 1", 0);
        failsAt("erase 0 06 1", 0);
        malformedAt("hide 00", 6);
        malformedAt("show 01", 6);
        malformedAt("merge 01", 7);
        malformedAt("move 00 1", 6);
        malformedAt("move 0 01", 8);
        malformedAt("cast 00 12", 6);
        malformedAt("paint 00 0000 1", 7);
        malformedAt("erase 00 00 1", 7);
        malformedAt("erase 0 00 01", 12);
        ShadowWall wall = Walls.with("n");
        Check.same("the greatest of each", Walls.run(wall, "paint 0 0075 1;erase 0 75 9"), 2);
        Check.same("after them", wall.paintedCells() + " " + wall.erasedCells(), "48 48");
    }

    /** The signs before 0 and behind 9, and digits that are no ASCII. */
    private static void signsBesideTheDigits() {
        char[] signs = {'/', ':', '-', '+', '.', 'a', (char) ('0' + 256), (char) ('9' + 256), 0x0660, 0xff11, 0xb2};
        for (String command : COMMANDS) {
            for (int i = 0; i < command.length(); i++) {
                for (char sign : signs) {
                    if (Character.isDigit(command.charAt(i))) {
                        malformedAt(command.substring(0, i) + sign + command.substring(i + 1), i);
                    }
                }
            }
        }
    }

    private static void errorPositionInALaterCommand() {
        malformedAt("hide 0;hide 0;hide 0;hide 0;hide 0;hide 0;hide 0;hade 0", 50);
        malformedAt("layer n;paint 2 0000 1;merge 2 ", 30);
        malformedAt("layer n:paint 2 0000 1;merge", 7);
        malformedAt("cast 0 1;cast 0 12;cast 0 123;x", 28);
    }

    /** The index of the last character of 60, and the length 60. */
    private static void errorPositionAtTheLimit() {
        String text = "hide 0;hide 0;hide 0;hide 0;hide 0;hide 0;paint 0 0000 12";
        malformedAt(text + "34X", 57);
        malformedAt(text + ";hi", 60);
        malformedAt(text + ";hX", 59);
        malformedAt(text + ";;;", 58);
    }

    /** "if the text is malformed" is listed first. */
    private static void promise40MalformedBeforeFailing() {
        malformedAt("hide 7;x", 7);
        malformedAt("paint 0 0000 99;", 16);
        ShadowWall wall = Walls.with("n");
        Walls.runRefused(wall, "hide 7;hide", MALFORMED);
        Check.same("no command has failed", Picture.failedCommand(wall), "none");
    }

    /** "If a command throws an exception, the state from before the call is kept." */
    private static void promise40StateFromBefore() {
        ShadowWall wall = Walls.with("nnm");
        for (int i = 0; i < 9; i++) {
            wall.paint(i % 3, i % 8, i % 6, 7, 5, i);
        }
        wall.writeLayers();
        wall.save();
        String before = Picture.of(wall);
        String texts = "hide 0;move 0 2;show 0/merge 1;merge 1/paint 0 0075 1;erase 0 00 9;cast 0 5/"
                + "cast 0 9;cast 1 9;cast 2 9;layer n/layer n;layer n;layer n;layer n/show 0/merge 1;paint 2 0000 0";
        for (String text : texts.split("/")) {
            Walls.runRefused(wall, text, FAILED);
            Check.same("the state after " + text, Picture.of(wall).replaceAll("failed [0-9]", "failed none"), before);
        }
        for (int left = 7; left >= 0; left--) {
            Check.same("the calls before them can be undone", wall.undo(), left);
        }
        Check.same("the first of them too", wall.painted(0) + " " + wall.painted(1) + " " + wall.painted(2), "48 0 0");
        Check.same("the saved state is kept", wall.restore() + " " + wall.painted(2), "3 32");
    }

    /** "Throws UnsupportedOperationException if a command throws an exception", whatever it is. */
    private static void promise40EachExceptionOfACommand() {
        failsAt("layer n;layer n;layer n;layer n;layer n", 4);
        failsAt("cast 0 6;cast 0 6;cast 0 6;cast 0 6;cast 0 6", 4);
        failsAt("paint 2 0000 1", 0);
        failsAt("paint 0 1000 1", 0);
        failsAt("paint 0 0100 1", 0);
        failsAt("paint 0 0000 16", 0);
        failsAt("erase 2 00 1", 0);
        failsAt("hide 2", 0);
        failsAt("hide 0;hide 0", 1);
        failsAt("show 2", 0);
        failsAt("show 0", 0);
        failsAt("merge 2", 0);
        failsAt("merge 0", 0);
        failsAt("layer m;merge 2", 1);
        failsAt("hide 0;merge 1", 1);
        failsAt("hide 1;merge 1", 1);
        failsAt("move 2 0", 0);
        failsAt("move 0 2", 0);
        failsAt("cast 2 12", 0);
        failsAt("cast 0 5", 0);
        failsAt("cast 0 19", 0);
    }

    /** "The input buffer is empty afterwards in all cases." */
    private static void promise40EmptyInAllCases() {
        ShadowWall wall = Walls.with("n");
        Check.same("carried out", Walls.run(wall, "hide 0") + " " + wall.feed('h'), "1 1");
        Walls.runRefused(wall, "x", MALFORMED);
        Check.same("malformed", wall.feed('h'), 1);
        Walls.runRefused(wall, "ide 7", FAILED);
        Check.same("failed", wall.feed('s'), 1);
        Check.same("what was fed after it", Walls.run(wall, "how 0"), 1);
        Check.throwsJust("the empty text", MALFORMED, wall::runCommands);
        Check.same("the empty text", wall.feed('s'), 1);
    }

    /** "runCommands are recorded when they return normally, even if nothing changes" */
    private static void promise40RecordedAsOne() {
        ShadowWall wall = new ShadowWall();
        for (int i = 1; i <= 9; i++) {
            Check.same("two commands", Walls.run(wall, i == 1 ? "layer n;layer m" : "move 0 0;move 1 1"), 2);
            Check.same("recorded as one", wall.undoCount(), Math.min(i, 8));
        }
        Walls.runRefused(wall, "layer n;layer x", MALFORMED);
        Walls.runRefused(wall, "layer n;hide 9", FAILED);
        Check.same("those that did not return", wall.undo(), 7);
        wall.removeLayer(0);
        Check.same("two commands", Walls.run(wall, "layer a;layer d"), 2);
        wall.undo();
        Check.same("both undone", wall.layerCount() + " " + wall.mode(0), "1 m");
    }

    /** "the latest malformed text"; "if no text was malformed" */
    private static void promise41Latest() {
        ShadowWall wall = Walls.with("n");
        Check.throwsJust("at first", NoSuchElementException.class, wall::errorPosition);
        Walls.run(wall, "hide 0");
        Walls.runRefused(wall, "hide 0", FAILED);
        Check.throwsJust("none was malformed", NoSuchElementException.class, wall::errorPosition);
        Walls.runRefused(wall, "show", MALFORMED);
        Check.same("the first", wall.errorPosition() + " " + wall.errorPosition(), "4 4");
        Walls.runRefused(wall, "", MALFORMED);
        Check.same("the second", wall.errorPosition(), 0);
        Walls.run(wall, "show 0");
        Walls.runRefused(wall, "show 0", FAILED);
        wall.undo();
        wall.save();
        wall.restore();
        Check.same("still the second", wall.errorPosition(), 0);
        Check.throwsJust("an empty buffer again", MALFORMED, wall::runCommands);
        Check.same("the third", wall.errorPosition(), 0);
    }

    /** "the index of the command, counted from 0" */
    private static void promise42FirstAndLastIndex() {
        failsAt("hide 2", 0);
        failsAt("hide 2;hide 0;hide 1", 0);
        failsAt("hide 0;show 0;hide 0;show 0;hide 0;show 0;hide 0;hide 0", 7);
        failsAt("hide 0;show 0;hide 0;show 0;show 0;hide 0;hide 0;hide 0", 4);
    }

    /** "in the latest failed call of runCommands"; "if no command failed" */
    private static void promise42Latest() {
        ShadowWall wall = Walls.with("n");
        Check.throwsJust("at first", NoSuchElementException.class, wall::failedCommand);
        Walls.run(wall, "hide 0");
        Walls.runRefused(wall, "hide", MALFORMED);
        Check.throwsJust("a refused hide", IllegalStateException.class, () -> wall.hide(0));
        Check.throwsJust("no command failed", NoSuchElementException.class, wall::failedCommand);
        Walls.runRefused(wall, "show 0;show 0", FAILED);
        Check.same("the first", wall.failedCommand() + " " + wall.failedCommand(), "1 1");
        Walls.runRefused(wall, "hide 0", FAILED);
        Check.same("the second", wall.failedCommand(), 0);
        Walls.runRefused(wall, "show 0;hide 0;hide 0", FAILED);
        Walls.run(wall, "show 0");
        Walls.runRefused(wall, "", MALFORMED);
        wall.undo();
        wall.save();
        wall.restore();
        Check.same("still the third", wall.failedCommand(), 2);
    }
}
