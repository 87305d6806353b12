/** Promises 6, 7 and 10, and "List" of the terms: each case at a boundary is a method of its own. */
public final class ListEdgesTest {
    public static void main(String[] args) throws IllegalAccessException {
        Cases.run(ListEdgesTest.class);
    }

    /** A list of so many words of one letter: a, b, and so on. The text is the last one. */
    private static RuneBands listOf(int words) {
        RuneBands stone = new RuneBands();
        for (int word = 0; word < words; word++) {
            Stones.addWord(stone, String.valueOf((char) ('a' + word)));
        }
        return stone;
    }

    private static RuneBands withText(int words, String text) {
        RuneBands stone = listOf(words);
        Stones.write(stone, text);
        return stone;
    }

    // ---- promise 6: addWord

    /** With an empty list, with one that has states to lose, and with one of seven words. */
    private static void textIsNoWord(String text) {
        Refusal.state(() -> withText(0, text), RuneBands::addWord);
        Refusal.state(() -> withText(2, text), RuneBands::addWord);
        Refusal.state(() -> withText(7, text), RuneBands::addWord);
    }

    private static void textIsAWord(String text) {
        RuneBands stone = withText(0, text);
        Check.same("addWord()", stone.addWord(), 0);
        Check.sameText("the list", Stones.words(stone), text);
        Check.same("the text's length", stone.clearText(), text.length());
    }

    static void promise6EmptyText() {
        textIsNoWord("");
    }

    static void promise6ClearedText() {
        Refusal.state(() -> {
            RuneBands stone = withText(0, "abc");
            stone.clearText();
            return stone;
        }, RuneBands::addWord);
    }

    static void promise6OneLetter() {
        textIsAWord("q");
    }

    static void promise6EightLetters() {
        textIsAWord("abcdwxyz");
    }

    static void promise6NineLetters() {
        textIsNoWord("abcdewxyz");
    }

    static void promise6FullText() {
        textIsNoWord("ab".repeat(30));
    }

    static void promise6FirstAndLastLetter() {
        textIsAWord("a");
        textIsAWord("z");
        textIsAWord("az");
    }

    static void promise6ByteBelowTheLetters() {
        textIsNoWord("a`a");
    }

    static void promise6ByteAboveTheLetters() {
        textIsNoWord("a{a");
    }

    static void promise6FirstByteIsNoLetter() {
        textIsNoWord(".abcdefg");
    }

    static void promise6LastByteIsNoLetter() {
        textIsNoWord("abcdefg.");
    }

    static void promise6OnlyByteIsNoLetter() {
        textIsNoWord(":");
    }

    static void promise6LettersOfSharedRunesAreNone() {
        textIsNoWord("A");
        textIsNoWord("ruNe");
        textIsNoWord("Z");
    }

    static void promise6LeastAndGreatestByteAreNone() {
        textIsNoWord("a\u0000");
        textIsNoWord("\u007fa");
    }

    static void promise6WordIsTheFirstOfTheList() {
        Refusal.state(() -> withText(3, "a"), RuneBands::addWord);
    }

    static void promise6WordIsTheLastOfTheList() {
        Refusal.state(() -> withText(3, "c"), RuneBands::addWord);
        Refusal.state(() -> withText(7, "g"), RuneBands::addWord);
    }

    static void promise6SameWordAtOnceAgain() {
        Refusal.state(() -> listOf(1), RuneBands::addWord);
    }

    static void promise6BeginningOfAWordIsNotInTheList() {
        RuneBands stone = new RuneBands();
        Stones.addWord(stone, "abcdefgh");
        Check.same("addWord()", Stones.addWord(stone, "abcdefg"), 1);
        Check.same("addWord()", Stones.addWord(stone, "a"), 2);
    }

    static void promise6LongerWordIsNotInTheList() {
        RuneBands stone = new RuneBands();
        Stones.addWord(stone, "a");
        Check.same("addWord()", Stones.addWord(stone, "ab"), 1);
        Check.same("addWord()", Stones.addWord(stone, "aa"), 2);
    }

    static void promise6EndOfAWordIsNotInTheList() {
        RuneBands stone = new RuneBands();
        Stones.addWord(stone, "abcdefgh");
        Check.same("addWord()", Stones.addWord(stone, "bcdefgh"), 1);
    }

    static void promise6OtherLastLetterIsNotInTheList() {
        RuneBands stone = new RuneBands();
        Stones.addWord(stone, "abcdefgh");
        Check.same("addWord()", Stones.addWord(stone, "abcdefgi"), 1);
    }

    static void promise6RemovedWordIsNotInTheList() {
        RuneBands stone = listOf(3);
        stone.removeWord(2);
        Check.same("addWord()", stone.addWord(), 2);
    }

    static void promise6UndoneWordIsNotInTheList() {
        RuneBands stone = listOf(1);
        stone.undo();
        Check.same("addWord()", stone.addWord(), 0);
    }

    static void promise6EighthWord() {
        Check.same("addWord()", withText(7, "h").addWord(), 7);
    }

    static void promise6NinthWord() {
        Refusal.state(() -> withText(8, "i"), RuneBands::addWord);
    }

    static void promise6FullListAndNoWord() {
        Refusal.state(() -> withText(8, ""), RuneBands::addWord);
        Refusal.state(() -> withText(8, "h"), RuneBands::addWord);
    }

    static void promise6RoomAgainBehindTheEighth() {
        RuneBands stone = withText(8, "i");
        stone.removeWord(0);
        Check.same("addWord()", stone.addWord(), 7);
        Check.sameText("the list", Stones.words(stone), "b c d e f g h i");
    }

    static void promise6EightWordsOfEightLetters() {
        RuneBands stone = new RuneBands();
        StringBuilder due = new StringBuilder();
        for (int word = 0; word < 8; word++) {
            String letters = String.valueOf((char) ('a' + word)).repeat(7) + "z";
            Check.same("addWord()", Stones.addWord(stone, letters), word);
            due.append(word == 0 ? "" : " ").append(letters);
        }
        Check.sameText("the list", Stones.words(stone), due.toString());
    }

    static void promise6TextStays() {
        RuneBands stone = withText(0, "rune");
        stone.addWord();
        Check.same("append()", stone.append('s'), 5);
        stone.addWord();
        Check.sameText("the list", Stones.words(stone), "rune runes");
    }

    static void promise6LaterTextIsNotTheWords() {
        RuneBands stone = withText(0, "rune");
        stone.addWord();
        Stones.write(stone, "zzzzzzzz");
        Check.sameText("the list", Stones.words(stone), "rune");
    }

    static void promise6Undoable() {
        RuneBands stone = listOf(2);
        Check.same("undo()", stone.undo(), 1);
        Check.sameText("the list", Stones.words(stone), "a");
    }

    // ---- promise 7: removeWord

    static void promise7EmptyList() {
        Refusal.index(RuneBands::new, stone -> stone.removeWord(0));
    }

    static void promise7WordOneTooSmall() {
        Refusal.index(stone -> stone.removeWord(-1));
    }

    static void promise7WordSmallest() {
        RuneBands stone = listOf(3);
        Check.same("removeWord()", stone.removeWord(0), 2);
        Check.sameText("the list", Stones.words(stone), "b c");
    }

    static void promise7WordLargest() {
        RuneBands stone = listOf(3);
        Check.same("removeWord()", stone.removeWord(2), 2);
        Check.sameText("the list", Stones.words(stone), "a b");
    }

    static void promise7WordOneTooLarge() {
        Refusal.index(Refusal::light, stone -> stone.removeWord(2));
        Refusal.index(Refusal::heavy, stone -> stone.removeWord(8));
    }

    static void promise7WordFarOutOfRange() {
        Refusal.index(stone -> stone.removeWord(Integer.MIN_VALUE));
        Refusal.index(stone -> stone.removeWord(Integer.MAX_VALUE));
    }

    static void promise7OnlyWord() {
        RuneBands stone = listOf(1);
        Check.same("removeWord()", stone.removeWord(0), 0);
        Check.same("words", stone.value(9), 0);
        Refusal.index(() -> {
            RuneBands bare = listOf(1);
            bare.removeWord(0);
            return bare;
        }, bare -> bare.removeWord(0));
    }

    static void promise7FullListsFirstWord() {
        RuneBands stone = listOf(8);
        Check.same("removeWord()", stone.removeWord(0), 7);
        Check.sameText("the list", Stones.words(stone), "b c d e f g h");
    }

    static void promise7FullListsLastWord() {
        RuneBands stone = listOf(8);
        Check.same("removeWord()", stone.removeWord(7), 7);
        Check.sameText("the list", Stones.words(stone), "a b c d e f g");
    }

    static void promise7LongWordInAShortOnesPlace() {
        RuneBands stone = listOf(1);
        Stones.addWord(stone, "abcdefgh");
        stone.removeWord(0);
        Check.sameText("the list", Stones.words(stone), "abcdefgh");
    }

    static void promise7ShortWordInALongOnesPlace() {
        RuneBands stone = new RuneBands();
        Stones.addWord(stone, "abcdefgh");
        Stones.addWord(stone, "q");
        stone.removeWord(0);
        Check.sameText("the list", Stones.words(stone), "q");
        Check.same("word(0, 1)", stone.word(0, 1), RuneBands.NONE);
    }

    static void promise7Undoable() {
        RuneBands stone = listOf(8);
        stone.removeWord(3);
        Check.same("undo()", stone.undo(), 3);
        Check.sameText("the list", Stones.words(stone), "a b c d e f g h");
    }

    // ---- promise 10: word

    private static RuneBands azAndQ() {
        RuneBands stone = new RuneBands();
        Stones.addWord(stone, "bbbbbbaz");
        Stones.addWord(stone, "qr");
        Stones.addWord(stone, "xxxxxxxx");
        return stone;
    }

    static void promise10EmptyList() {
        Refusal.index(RuneBands::new, stone -> stone.word(0, 0));
    }

    static void promise10WordOneTooSmall() {
        Refusal.index(stone -> stone.word(-1, 0));
    }

    static void promise10WordSmallest() {
        Check.same("word(0, 0)", azAndQ().word(0, 0), 1);
    }

    static void promise10WordLargest() {
        Check.same("word(2, 0)", azAndQ().word(2, 0), 23);
        Check.same("word(7, 1)", Refusal.heavy().word(7, 1), 0);
    }

    static void promise10WordOneTooLarge() {
        Refusal.index(Refusal::light, stone -> stone.word(2, 0));
        Refusal.index(Refusal::heavy, stone -> stone.word(8, 0));
    }

    static void promise10WordFarOutOfRange() {
        Refusal.index(stone -> stone.word(Integer.MIN_VALUE, 0));
        Refusal.index(stone -> stone.word(Integer.MAX_VALUE, 0));
    }

    static void promise10RemovedWord() {
        Refusal.index(() -> {
            RuneBands stone = azAndQ();
            stone.removeWord(0);
            return stone;
        }, stone -> stone.word(2, 0));
    }

    static void promise10IndexOneTooSmall() {
        Refusal.index(stone -> stone.word(0, -1));
        Refusal.index(stone -> stone.word(1, -1));
    }

    static void promise10IndexFarTooSmall() {
        Refusal.index(stone -> stone.word(1, Integer.MIN_VALUE));
    }

    static void promise10WordAndIndexWrong() {
        Refusal.index(stone -> stone.word(8, -1));
    }

    static void promise10IndexOfTheLastLetter() {
        Check.same("word(0, 7)", azAndQ().word(0, 7), 25);
        Check.same("word(1, 1)", azAndQ().word(1, 1), 17);
    }

    static void promise10IndexBehindTheLastLetter() {
        Check.same("word(0, 8)", azAndQ().word(0, 8), RuneBands.NONE);
        Check.same("word(1, 2)", azAndQ().word(1, 2), RuneBands.NONE);
        Check.same("word(1, 8)", azAndQ().word(1, 8), RuneBands.NONE);
        Check.same("word(2, 8)", azAndQ().word(2, 8), RuneBands.NONE);
    }

    static void promise10IndexFarBehindTheLastLetter() {
        Check.same("word(1, most)", azAndQ().word(1, Integer.MAX_VALUE), RuneBands.NONE);
    }

    static void promise10FirstAndLastLetter() {
        Check.same("a", azAndQ().word(0, 6), 0);
        Check.same("z", azAndQ().word(0, 7), 25);
    }
}
