/** Promises 13 to 15, and "Reading" and "List" of the terms: each case at a boundary is a method of its own. */
public final class ReadingEdgesTest {
    private static final String LONG = "/\\/\\/\\A|\\AAAAA\\|/AAAAA/|AAAAAA\\|\\AAAAA/|/AAAAA\\|\\/\\A/\\/";

    public static void main(String[] args) throws IllegalAccessException {
        Cases.run(ReadingEdgesTest.class);
    }

    /** The first row, read rightward and leftward; the row below it is empty. */
    private static RuneBands rowOf(String row) {
        return Stones.of(row + "|" + ".".repeat(row.length()));
    }

    private static int leftGate(String row) {
        return 2 * row.length() + 2;
    }

    private static void rowReads(String row, String rightward, String leftward) {
        RuneBands stone = rowOf(row);
        Check.sameText(row + " rightward", Stones.reading(stone, leftGate(row)), rightward);
        Check.sameText(row + " leftward", Stones.reading(stone, row.length()), leftward);
    }

    // ---- promise 13: read, with "Reading" of the terms

    static void promise13GateOneTooSmall() {
        Refusal.index(stone -> stone.read(-1, 0));
    }

    static void promise13GateSmallest() {
        Check.same("read(0, 0)", Refusal.light().read(0, 0), 'a');
    }

    static void promise13GateLargest() {
        Check.same("read(9, 0)", Stones.of("...|q..").read(9, 0), 'q');
    }

    static void promise13GateOneTooLarge() {
        Refusal.index(stone -> stone.read(10, 0));
    }

    static void promise13GateFarOutOfRange() {
        Refusal.index(stone -> stone.read(Integer.MIN_VALUE, 0));
        Refusal.index(stone -> stone.read(Integer.MAX_VALUE, 0));
    }

    static void promise13IndexOneTooSmall() {
        Refusal.index(stone -> stone.read(0, -1));
        Refusal.index(stone -> stone.read(9, -1));
    }

    static void promise13IndexFarTooSmall() {
        Refusal.index(stone -> stone.read(0, Integer.MIN_VALUE));
    }

    static void promise13GateAndIndexWrong() {
        Refusal.index(stone -> stone.read(10, -1));
    }

    static void promise13LastByte() {
        RuneBands stone = rowOf("aBc");
        Check.same("read(8, 4)", stone.read(8, 4), 'c');
    }

    static void promise13IndexBehindTheLastByte() {
        RuneBands stone = rowOf("aBc");
        Check.same("read(8, 5)", stone.read(8, 5), RuneBands.NONE);
        Check.same("read(8, most)", stone.read(8, Integer.MAX_VALUE), RuneBands.NONE);
    }

    static void promise13EmptyReading() {
        Check.same("read(0, 0)", new RuneBands().read(0, 0), RuneBands.NONE);
        Check.same("read(0, 1)", new RuneBands().read(0, 1), RuneBands.NONE);
    }

    static void promise13EmptyReadingBehindAnotherOne() {
        RuneBands stone = rowOf("abc");
        Check.same("read(8, 0)", stone.read(8, 0), 'a');
        Check.same("read(9, 0)", stone.read(9, 0), RuneBands.NONE);
    }

    static void promise13FirstAndLastLetter() {
        rowReads("az", "az", "za");
        rowReads("AZ", "a az z", "z za a");
    }

    static void promise13EmptyCellsAndCornersGiveNothing() {
        rowReads("a..b", "ab", "ba");
        Check.sameText("round corners", Stones.reading(Stones.of("a\\|b/"), 6), "ab");
    }

    static void promise13BrokenCornerGivesNothing() {
        rowReads("ab#cd", "ab", "dc");
    }

    static void promise13BandThatEndsAtOnceAtABrokenCorner() {
        rowReads("#ab", "", "ba");
    }

    static void promise13BandThatEndsAtOnceAtAGate() {
        RuneBands stone = Stones.of("/a|b.");
        Check.same("read(0, 0)", stone.read(0, 0), RuneBands.NONE);
        Check.same("read(6, 0)", stone.read(6, 0), RuneBands.NONE);
    }

    static void promise13RuneThatIsEnteredTwice() {
        RuneBands stone = Stones.of("./\\|.a/|...");
        Check.sameText("from below", Stones.reading(stone, 7), "aa");
    }

    static void promise13SharedRuneThatIsEnteredTwice() {
        RuneBands stone = Stones.of("./\\|.A/|...");
        Check.sameText("from below", Stones.reading(stone, 7), "a aa a");
    }

    static void promise13GapAtTheBeginningAndTheEnd() {
        rowReads(":ab", "ab", "ba");
        rowReads("ab:", "ab", "ba");
        rowReads(":ab:", "ab", "ba");
    }

    static void promise13GapsAtTheBeginningAndTheEnd() {
        rowReads("::ab:::", "ab", "ba");
    }

    static void promise13GapBetweenWords() {
        rowReads("a:b", "a b", "b a");
    }

    static void promise13GapsThatFollowEachOther() {
        rowReads("a::b", "a b", "b a");
        rowReads("a:.:b", "a b", "b a");
        rowReads("a:::::b", "a b", "b a");
    }

    static void promise13TwoGapsWithAWordBetween() {
        rowReads("a:b:c", "a b c", "c b a");
    }

    static void promise13GapsAlone() {
        rowReads("::", "", "");
        rowReads(":.:", "", "");
    }

    static void promise13SharedRuneAlone() {
        rowReads("A.", "a a", "a a");
    }

    static void promise13SharedRuneBesideAGap() {
        rowReads("A:", "a a", "a a");
        rowReads(":A", "a a", "a a");
        rowReads("a:B:c", "a b b c", "c b b a");
    }

    static void promise13SharedRunesThatFollowEachOther() {
        rowReads("ABC", "a ab bc c", "c cb ba a");
    }

    static void promise13GapOfOneReadingIsNoneOfTheNext() {
        RuneBands stone = Stones.of("a:|b.");
        Check.sameText("the first row", Stones.reading(stone, 6), "a");
        Check.sameText("the second row", Stones.reading(stone, 7), "b");
    }

    static void promise13GapAtABrokenCorner() {
        rowReads("ab:#:c", "ab", "c");
    }

    static void promise13LongReading() {
        RuneBands stone = Stones.of(LONG);
        Check.same("the first byte", stone.read(17, 0), 'a');
        Check.same("the last byte", stone.read(17, 161), 'a');
        Check.same("behind it", stone.read(17, 162), RuneBands.NONE);
    }

    // ---- promise 14: wordsOf, with "List" of the terms

    private static void rowScores(String row, int due, String... words) {
        RuneBands stone = Stones.of(row + "|" + ".".repeat(row.length()), words);
        Check.same("wordsOf() of " + row, stone.wordsOf(leftGate(row)), due);
    }

    static void promise14GateOneTooSmall() {
        Refusal.index(stone -> stone.wordsOf(-1));
    }

    static void promise14GateSmallest() {
        Check.same("wordsOf(0)", Stones.of("q.|..", "q").wordsOf(0), 1);
    }

    static void promise14GateLargest() {
        Check.same("wordsOf(7)", Stones.of("..|.q", "q").wordsOf(7), 1);
    }

    static void promise14GateOneTooLarge() {
        Refusal.index(stone -> stone.wordsOf(10));
    }

    static void promise14GateFarOutOfRange() {
        Refusal.index(stone -> stone.wordsOf(Integer.MIN_VALUE));
        Refusal.index(stone -> stone.wordsOf(Integer.MAX_VALUE));
    }

    static void promise14EmptyListAndNoWord() {
        rowScores("..", -1);
    }

    static void promise14EmptyList() {
        rowScores("ab", -1);
    }

    static void promise14NoWord() {
        rowScores("..", -1, "a");
    }

    static void promise14GapsAloneAreNoWord() {
        rowScores("::", -1, "a");
    }

    static void promise14OneWordThatIsInTheList() {
        rowScores("ab", 1, "ab");
    }

    static void promise14OneWordThatIsNotInTheList() {
        rowScores("ab", -1, "ba");
    }

    static void promise14EachWordIsInTheList() {
        rowScores("a:b:c", 3, "a", "b", "c");
    }

    static void promise14OneOfThemIsNotInTheList() {
        rowScores("a:b:c", -3, "a", "c");
        rowScores("a:b:c", -3, "b", "c");
        rowScores("a:b:c", -3, "a", "b");
    }

    static void promise14OneOfThemIsInTheList() {
        rowScores("a:b:c", -2, "b");
    }

    static void promise14SameWordTwice() {
        rowScores("a:b:a", 3, "a", "b");
        rowScores("a:b:a", -3, "a");
    }

    static void promise14SharedRuneAloneIsTwoWords() {
        rowScores("A.", 2, "a");
    }

    static void promise14EmptyWordsAreNone() {
        rowScores(":a::b:", 2, "a", "b");
        rowScores("::a", 1, "a");
        rowScores("a::", 1, "a");
    }

    static void promise14EightLetters() {
        Check.same("wordsOf()", Stones.of("abcd\\|hgfe/", "abcdefgh").wordsOf(12), 1);
    }

    static void promise14NineLettersAreInNoList() {
        Check.same("wordsOf()", Stones.of("abcde\\|.ihgf/", "abcdefgh", "bcdefghi").wordsOf(14), -1);
    }

    static void promise14BeginningAndEndOfAWordAreNotTheWord() {
        rowScores("ab", -1, "abc", "a", "b");
        rowScores("abc", -1, "ab", "bc");
    }

    static void promise14LastWordOfAFullList() {
        rowScores("h.", 1, "a", "b", "c", "d", "e", "f", "g", "h");
    }

    static void promise14FirstWordOfAFullList() {
        rowScores("a.", 1, "a", "b", "c", "d", "e", "f", "g", "h");
    }

    static void promise14RemovedWord() {
        RuneBands stone = Stones.of("ab|..", "x", "ab");
        stone.removeWord(1);
        Check.same("wordsOf()", stone.wordsOf(6), -1);
    }

    static void promise14OtherDirection() {
        RuneBands stone = Stones.of("ab|..", "ba");
        Check.same("rightward", stone.wordsOf(6), -1);
        Check.same("leftward", stone.wordsOf(2), 1);
    }

    static void promise14UpToABrokenCorner() {
        rowScores("ab#c", 1, "ab");
        rowScores("#ab", -1, "ab");
    }

    // ---- promise 15: alike

    private static void rowIsAlike(String row, boolean due) {
        RuneBands stone = rowOf(row);
        Check.same(row + " rightward", stone.alike(leftGate(row)) ? 1 : 0, due ? 1 : 0);
        Check.same(row + " leftward", stone.alike(row.length()) ? 1 : 0, due ? 1 : 0);
    }

    static void promise15GateOneTooSmall() {
        Refusal.index(stone -> stone.alike(-1));
    }

    static void promise15GateSmallest() {
        Check.holds("alike(0)", Stones.of("a.|a.").alike(0));
        Check.holds("not alike(0)", !Stones.of("a.|b.").alike(0));
    }

    static void promise15GateLargest() {
        Check.holds("alike(7)", Stones.of("..|aa").alike(7));
        Check.holds("not alike(7)", !Stones.of("..|ab").alike(7));
    }

    static void promise15GateOneTooLarge() {
        Refusal.index(stone -> stone.alike(10));
    }

    static void promise15GateFarOutOfRange() {
        Refusal.index(stone -> stone.alike(Integer.MIN_VALUE));
        Refusal.index(stone -> stone.alike(Integer.MAX_VALUE));
    }

    static void promise15EmptyReading() {
        rowIsAlike("..", true);
    }

    static void promise15GapsAlone() {
        rowIsAlike(":.", true);
    }

    static void promise15OneLetter() {
        rowIsAlike("a.", true);
    }

    static void promise15OneSharedRune() {
        rowIsAlike("A.", true);
    }

    static void promise15TwoLetters() {
        rowIsAlike("aa", true);
        rowIsAlike("ab", false);
    }

    static void promise15OnlyTheMiddleDiffers() {
        rowIsAlike("abba", true);
        rowIsAlike("abca", false);
    }

    static void promise15OnlyTheEndsDiffer() {
        rowIsAlike("abbc", false);
    }

    static void promise15OnlyTheGapDiffers() {
        rowIsAlike("a:aa", false);
        rowIsAlike("a:aa:a", true);
    }

    static void promise15OneReadingIsTheBeginningOfTheOther() {
        rowIsAlike("Aa", false);
    }

    static void promise15GapsAtOneEnd() {
        rowIsAlike("::aba", true);
    }

    static void promise15MoreGapsAtOneSide() {
        rowIsAlike("a::a:a", true);
    }

    static void promise15EmptyCellsDoNotCount() {
        rowIsAlike("a..ba", true);
        rowIsAlike("a..bca", false);
    }

    static void promise15BrokenCornerWithAReadingThatIsAlike() {
        rowIsAlike("aba#aba", false);
    }

    static void promise15BrokenCornerAndEmptyReading() {
        rowIsAlike("#.", false);
    }

    static void promise15BandThatEndsAtOnceAtAGate() {
        Check.holds("alike(0)", Stones.of("/.|..").alike(0));
    }

    static void promise15BandThatCrossesItself() {
        Check.holds("alike(7)", Stones.of("./\\|.a/|...").alike(7));
        Check.holds("not alike(7)", !Stones.of("./\\|ba/|...").alike(7));
    }
}
