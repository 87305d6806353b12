/** Promises 22 to 24: the text, and stones that are read from it. */
public final class TextTest {
    private static final Class<?> ARGUMENT = IllegalArgumentException.class;
    private static final Class<?> STATE = IllegalStateException.class;

    public static void main(String[] args) {
        bytesAppended();
        bytesRefused();
        fullText();
        textCleared();
        stonesParsed();
        everyByte();
        tooEarly();
        cannotStand();
        parseKeepsTheRest();
        errorsChangeNothing();
        Check.end();
    }

    /** Promise 22. */
    private static void bytesAppended() {
        RuneBands stone = new RuneBands();
        Check.same("the least byte", stone.append(0), 1);
        Check.same("the greatest byte", stone.append(127), 2);
        Check.same("a third", stone.append('a'), 3);
        Check.sameText("not undoable", Check.thrown(stone::undo), "java.lang.IllegalStateException");
        Check.same("the stone is as it was", stone.value(2), 0);
    }

    private static void bytesRefused() {
        RuneBands stone = new RuneBands();
        stone.append('a');
        int[] wrong = {-1, 128, 255, 256, 'a' + 256, Integer.MAX_VALUE, Integer.MIN_VALUE};
        for (int value : wrong) {
            Check.refused("append(" + value + ")", stone, ARGUMENT, () -> stone.append(value));
        }
        Check.same("as long as it was", stone.clearText(), 1);
    }

    private static void fullText() {
        RuneBands stone = new RuneBands();
        for (int length = 1; length <= 60; length++) {
            Check.same("append " + length, stone.append('a'), length);
        }
        Check.refused("a 61st byte", stone, STATE, () -> stone.append('a'));
        Check.refused("the value comes first", stone, ARGUMENT, () -> stone.append(128));
        Check.same("60 bytes", stone.clearText(), 60);
        Check.same("room again", stone.append('a'), 1);
    }

    /** Promise 23. */
    private static void textCleared() {
        RuneBands stone = Stones.of("ab|cd");
        Check.same("five", stone.clearText(), 5);
        Check.same("none", stone.clearText(), 0);
        Check.sameText("the stone stays", Stones.cells(stone), "ab|cd");
        Check.same("not undoable", stone.undo(), 0);
        Check.same("the text is not restored", stone.clearText(), 0);
    }

    private static int parse(RuneBands stone, String text) {
        Stones.write(stone, text);
        return stone.parse();
    }

    /** Promise 24. */
    private static void stonesParsed() {
        RuneBands stone = new RuneBands();
        String[] texts = {"..|..", "ab|CD", "a/\\#:.Z|.......", "..|..|..|..|..|..|..",
            "aaaaaaa|bbbbbbb|ccccccc|ddddddd|eeeeeee|fffffff|ggggggg", "/\\|\\/|##"};
        int[] runes = {0, 4, 2, 0, 49, 0};
        for (int index = 0; index < texts.length; index++) {
            RuneBands other = new RuneBands();
            Check.same("parse " + texts[index], parse(other, texts[index]), runes[index]);
            Check.sameText("its cells", Stones.cells(other), texts[index]);
            Check.same("the text stays", other.clearText(), texts[index].length());
        }
        Check.same("width", parse(stone, "...|..."), 0);
        Check.same("width", stone.value(0), 3);
        Check.same("height", stone.value(1), 2);
        parse(stone, "a/|b.");
        Check.sameText("the bands follow", Stones.path(stone, 2), "1 3");
        Check.same("parse again, with the same text", stone.parse(), 2);
    }

    private static void everyByte() {
        for (int value = 0; value <= 127; value++) {
            RuneBands stone = new RuneBands();
            Stones.write(stone, "..|.");
            stone.append(value);
            boolean letter = Character.isLetter(value);
            boolean other = "./\\#:".indexOf(value) >= 0;
            Check.same("the last cell is " + value, stone.parse(), letter ? 1 : other ? 0 : -14);
        }
    }

    private static void tooEarly() {
        RuneBands stone = new RuneBands();
        String[] texts = {"", "a", "ab", "abc", "abcdefg", "ab|", "ab|c", "abc|de", "ab|cd|", "ab|cd|e", "ab|cd|ef|",
            "..|..|..|..|..|..|", "..|..|..|..|..|..|.", "......."};
        for (String text : texts) {
            Check.same("parse '" + text + "'", parse(stone, text), -10 - text.length());
        }
    }

    private static void cannotStand() {
        RuneBands stone = new RuneBands();
        String[] texts = {"|", "|..", "a|", "a|b", "abcdefgh", "abcdefgh|", "ab|cde", "ab|c|", "abc|de|fgh", "ab||cd",
            "..|..|..|..|..|..|..|", "..|..|..|..|..|..|..|..", "..|..|..|..|..|..|...", " ab|cd", "ab |cd", "ab|1d",
            "ab|cd\u0000", "ab|cd|e}", "ab|cd ", "ab|||||", "?", "ab|c\n", "abc|defg"};
        int[] due = {0, 0, 1, 1, 7, 7, 5, 4, 6, 3, 20, 20, 20, 0, 2, 3, 5, 7, 5, 3, 0, 4, 7};
        for (int index = 0; index < texts.length; index++) {
            Check.same("parse '" + texts[index] + "'", parse(stone, texts[index]), -10 - due[index]);
        }
        Stones.write(stone, "aaaaaaa|bbbbbbb|ccccccc|ddddddd|eeeeeee|fffffff|ggggggg|...a");
        Check.same("60 bytes", stone.parse(), -10 - 55);
    }

    private static void parseKeepsTheRest() {
        RuneBands stone = Stones.of("ab|cd", "x", "yz");
        Check.same("parse", parse(stone, "...|efg"), 3);
        Check.sameText("the list stays", Stones.words(stone), "x yz");
        Check.same("undone", stone.undo(), 3);
        Check.sameText("the stone before", Stones.cells(stone), "ab|cd");
        Check.same("the text is not undone", stone.clearText(), 7);
        RuneBands same = Stones.of("ab|cd");
        Check.same("the same stone", same.parse(), 4);
        Check.same("is saved too", same.undo(), 1);
    }

    private static void errorsChangeNothing() {
        RuneBands stone = Stones.of("ab|cd", "x");
        String[] texts = {"", "ab|c", "ab|cde", "x", "..|..|..|..|..|..|..|", "efghijkl"};
        for (String text : texts) {
            Stones.write(stone, text);
            long before = stone.digest();
            Check.holds("an error in " + text, stone.parse() <= -10);
            Check.same("the digest after " + text, stone.digest(), before);
            Check.sameText("the stone after " + text, Stones.cells(stone), "ab|cd");
            Check.same("the text after " + text, stone.clearText(), text.length());
        }
        Check.same("no state was saved", stone.undo(), 1);
    }
}
