/** Promises 6, 7 and 10: the list of words. */
public final class ListTest {
    private static final Class<?> INDEX = IndexOutOfBoundsException.class;
    private static final Class<?> STATE = IllegalStateException.class;

    public static void main(String[] args) {
        wordsAdded();
        wordsRefused();
        fullList();
        wordsRemoved();
        removalsRefused();
        letters();
        Check.end();
    }

    /** Promise 6. */
    private static void wordsAdded() {
        RuneBands stone = new RuneBands();
        Check.same("the first", Stones.addWord(stone, "rune"), 0);
        Check.same("the text stays", stone.append('s'), 5);
        Check.same("a longer one", stone.addWord(), 1);
        Check.same("one letter", Stones.addWord(stone, "a"), 2);
        Check.same("eight letters", Stones.addWord(stone, "abcdwxyz"), 3);
        Check.same("the end of another one", Stones.addWord(stone, "une"), 4);
        Check.sameText("the list", Stones.words(stone), "rune runes a abcdwxyz une");
        Check.same("undone", stone.undo(), 3);
        Check.sameText("one less", Stones.words(stone), "rune runes a abcdwxyz");
        Check.same("the same number again", stone.addWord(), 4);
    }

    private static void wordsRefused() {
        RuneBands stone = new RuneBands();
        Check.refused("an empty text", stone, STATE, stone::addWord);
        Stones.addWord(stone, "rune");
        Check.refused("in the list", stone, STATE, stone::addWord);
        Stones.addWord(stone, "stone");
        String[] wrong = {"", "rune", "stone", "abcdefghi", "Rune", "ru ne", "ru.e", "a|b", "a:", "{", "`", "aa\u0000",
            "a1", "aaaaaaaaaaaaaaaaaaaaaaaaaaaaaaaaaaaaaaaaaaaaaaaaaaaaaaaaaaaa"};
        for (String word : wrong) {
            Stones.write(stone, word);
            Check.refused("addWord() of '" + word + "'", stone, STATE, stone::addWord);
        }
        Check.sameText("the list is as it was", Stones.words(stone), "rune stone");
    }

    private static void fullList() {
        RuneBands stone = new RuneBands();
        for (int word = 0; word < 8; word++) {
            Check.same("word " + word, Stones.addWord(stone, String.valueOf((char) ('a' + word))), word);
        }
        Stones.write(stone, "i");
        Check.refused("a ninth", stone, STATE, stone::addWord);
        stone.removeWord(7);
        Check.same("room again", stone.addWord(), 7);
        Check.sameText("the list", Stones.words(stone), "a b c d e f g i");
    }

    /** Promise 7. */
    private static void wordsRemoved() {
        RuneBands stone = new RuneBands();
        String[] list = {"abcdefgh", "b", "cc", "ddd"};
        for (String word : list) {
            Stones.addWord(stone, word);
        }
        Check.same("the second", stone.removeWord(1), 3);
        Check.sameText("the others move up", Stones.words(stone), "abcdefgh cc ddd");
        Check.same("the first", stone.removeWord(0), 2);
        Check.sameText("shorter ones in a longer one's place", Stones.words(stone), "cc ddd");
        Check.same("the last", stone.removeWord(1), 1);
        Check.same("the only one", stone.removeWord(0), 0);
        Check.same("undone", stone.undo(), 3);
        Check.sameText("back", Stones.words(stone), "cc");
        stone.undo();
        stone.undo();
        Check.sameText("back again", Stones.words(stone), "abcdefgh cc ddd");
        stone.undo();
        Check.sameText("all again", Stones.words(stone), "abcdefgh b cc ddd");
        Stones.write(stone, "b");
        stone.removeWord(1);
        Check.same("a removed word can be added", stone.addWord(), 3);
    }

    private static void removalsRefused() {
        RuneBands stone = new RuneBands();
        Check.refused("an empty list", stone, INDEX, () -> stone.removeWord(0));
        Stones.addWord(stone, "a");
        Stones.addWord(stone, "b");
        int[] wrong = {-1, 2, 3, 8, Integer.MAX_VALUE, Integer.MIN_VALUE};
        for (int word : wrong) {
            Check.refused("removeWord(" + word + ")", stone, INDEX, () -> stone.removeWord(word));
        }
        Check.sameText("the list is as it was", Stones.words(stone), "a b");
    }

    /** Promise 10. */
    private static void letters() {
        RuneBands stone = new RuneBands();
        Check.refused("word(0, 0) of an empty list", stone, INDEX, () -> stone.word(0, 0));
        Stones.addWord(stone, "azbyczzz");
        Stones.addWord(stone, "q");
        int[] due = {0, 25, 1, 24, 2, 25, 25, 25, RuneBands.NONE, RuneBands.NONE};
        for (int index = 0; index < due.length; index++) {
            Check.same("word(0, " + index + ")", stone.word(0, index), due[index]);
        }
        Check.same("word(1, 0)", stone.word(1, 0), 16);
        Check.same("word(1, 1)", stone.word(1, 1), RuneBands.NONE);
        Check.same("far behind", stone.word(0, Integer.MAX_VALUE), RuneBands.NONE);
        int[] wrong = {-1, 2, 8, Integer.MAX_VALUE, Integer.MIN_VALUE};
        for (int number : wrong) {
            Check.refused("word(" + number + ", 0)", stone, INDEX, () -> stone.word(number, 0));
        }
        Check.refused("word(0, -1)", stone, INDEX, () -> stone.word(0, -1));
        Check.refused("word(1, least)", stone, INDEX, () -> stone.word(1, Integer.MIN_VALUE));
    }
}
