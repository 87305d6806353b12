/** Promises 22 to 24, and "Text" of the terms: each case at a boundary is a method of its own. */
public final class TextEdgesTest {
    private static final String LARGEST = "abcdefg|hijklmn|opqrstu|vwxyzAB|CDEFGHI|JKLMNOP|QRSTUVW";
    private static final String SIXTY_BYTES = LARGEST + "|....";

    public static void main(String[] args) throws IllegalAccessException {
        Cases.run(TextEdgesTest.class);
    }

    private static RuneBands withText(String text) {
        RuneBands stone = Refusal.light();
        Stones.write(stone, text);
        return stone;
    }

    private static RuneBands fullText() {
        return withText(SIXTY_BYTES);
    }

    // ---- promise 22: append

    static void promise22ValueOneTooSmall() {
        Refusal.argument(stone -> stone.append(-1));
    }

    static void promise22ValueSmallest() {
        Check.same("append(0)", new RuneBands().append(0), 1);
    }

    static void promise22ValueLargest() {
        Check.same("append(127)", new RuneBands().append(127), 1);
    }

    static void promise22ValueOneTooLarge() {
        Refusal.argument(stone -> stone.append(128));
    }

    static void promise22ValueFarOutOfRange() {
        Refusal.argument(stone -> stone.append(Integer.MIN_VALUE));
        Refusal.argument(stone -> stone.append(Integer.MAX_VALUE));
        Refusal.argument(stone -> stone.append('a' + 256));
        Refusal.argument(stone -> stone.append('a' - 256));
    }

    static void promise22FirstByte() {
        Check.same("append()", new RuneBands().append('a'), 1);
    }

    static void promise22SixtiethByte() {
        RuneBands stone = withText("a".repeat(59));
        Check.same("append()", stone.append('a'), 60);
    }

    static void promise22SixtyFirstByte() {
        Refusal.state(TextEdgesTest::fullText, stone -> stone.append('a'));
        Refusal.state(() -> withText("a".repeat(60)), stone -> stone.append(0));
        Refusal.state(() -> withText("a".repeat(60)), stone -> stone.append(127));
    }

    static void promise22FullTextAndValueWrongTheValueIsFirst() {
        Refusal.argument(TextEdgesTest::fullText, stone -> stone.append(128));
        Refusal.argument(TextEdgesTest::fullText, stone -> stone.append(-1));
    }

    static void promise22RoomAgainWhenTheTextIsCleared() {
        RuneBands stone = fullText();
        stone.clearText();
        Check.same("append()", stone.append('a'), 1);
    }

    static void promise22NotUndoable() {
        RuneBands stone = new RuneBands();
        stone.append('a');
        Check.sameText("undo()", Check.thrown(stone::undo), "java.lang.IllegalStateException");
        Check.same("clearText()", stone.clearText(), 1);
    }

    static void promise22BytesStandInTheirOrder() {
        RuneBands stone = withText("ab|cd");
        stone.parse();
        Check.sameText("cells", Stones.cells(stone), "ab|cd");
    }

    // ---- promise 23: clearText

    static void promise23EmptyText() {
        Check.same("clearText()", new RuneBands().clearText(), 0);
    }

    static void promise23OneByte() {
        Check.same("clearText()", withText("a").clearText(), 1);
    }

    static void promise23FullText() {
        Check.same("clearText()", fullText().clearText(), 60);
    }

    static void promise23Twice() {
        RuneBands stone = withText("abc");
        stone.clearText();
        Check.same("clearText()", stone.clearText(), 0);
        Check.same("parse()", stone.parse(), -10);
    }

    static void promise23OldBytesAreGone() {
        RuneBands stone = withText("ab|cd");
        stone.clearText();
        stone.append('x');
        Check.same("parse()", stone.parse(), -11);
    }

    static void promise23NotUndoable() {
        RuneBands stone = new RuneBands();
        stone.append('a');
        stone.clearText();
        Check.sameText("undo()", Check.thrown(stone::undo), "java.lang.IllegalStateException");
        Check.same("clearText()", stone.clearText(), 0);
    }

    // ---- promise 24: parse

    private static void isAStone(String text, int runes) {
        RuneBands stone = withText(text);
        Check.same("parse() of " + text, stone.parse(), runes);
        Check.sameText("cells", Stones.cells(stone), text);
        Check.sameText("the list", Stones.words(stone), "ab c");
        Check.same("undo()", stone.undo(), 3);
        Check.sameText("cells", Stones.cells(stone), "aB#|:/c");
        Check.same("clearText()", stone.clearText(), text.length());
    }

    /** From an object with three saved states, and from one with four: nothing changes. */
    private static void errorAt(int position, String text) {
        RuneBands light = withText(text);
        Check.same("parse() of " + text, light.parse(), -10 - position);
        Check.sameText("the object behind it", Refusal.whole(light), Refusal.whole(withText(text)));
        RuneBands heavy = heavyWithText(text);
        Check.same("parse() of " + text, heavy.parse(), -10 - position);
        Check.sameText("the object behind it", Refusal.whole(heavy), Refusal.whole(heavyWithText(text)));
    }

    private static RuneBands heavyWithText(String text) {
        RuneBands stone = Refusal.heavy();
        Stones.write(stone, text);
        return stone;
    }

    static void promise24EmptyText() {
        errorAt(0, "");
    }

    static void promise24SmallestStone() {
        isAStone("ab|CD", 4);
    }

    static void promise24LargestStone() {
        isAStone(LARGEST, 49);
    }

    static void promise24WidestAndLowest() {
        isAStone("a......|......Z", 2);
    }

    static void promise24NarrowestAndHighest() {
        isAStone("a.|..|..|..|..|..|.z", 2);
    }

    static void promise24NoRune() {
        isAStone("..|/\\|#:", 0);
    }

    static void promise24EachKindOfCell() {
        isAStone(".az/\\|AZ#:.", 4);
    }

    static void promise24OneCellInTheFirstRow() {
        errorAt(1, "a|b");
        errorAt(1, "a|");
    }

    static void promise24NoCellInTheFirstRow() {
        errorAt(0, "|");
        errorAt(0, "|ab|cd");
    }

    static void promise24EightCellsInTheFirstRow() {
        errorAt(7, "abcdefgh");
        errorAt(7, "abcdefgh|abcdefgh");
    }

    static void promise24OneCellTooManyInTheSecondRow() {
        errorAt(5, "ab|cde");
        errorAt(11, "abcde|fghij.|");
    }

    static void promise24OneCellTooManyInTheLargestRow() {
        errorAt(15, ".......|........");
    }

    static void promise24OneCellTooFewInTheSecondRow() {
        errorAt(6, "abc|de|fgh");
        errorAt(4, "ab|c|ab");
    }

    static void promise24NoCellInTheSecondRow() {
        errorAt(3, "ab||cd");
    }

    static void promise24OneCellTooFewInTheLargestRow() {
        errorAt(14, ".......|......|");
    }

    static void promise24OneCellTooManyInTheSeventhRow() {
        errorAt(20, "..|..|..|..|..|..|...");
        errorAt(55, LARGEST + "a");
    }

    static void promise24RowEndBehindTheSeventhRow() {
        errorAt(20, "..|..|..|..|..|..|..|");
        errorAt(20, "..|..|..|..|..|..|..|..");
        errorAt(55, LARGEST + "|");
    }

    static void promise24RowEndInTheSeventhRow() {
        errorAt(19, "..|..|..|..|..|..|.|");
    }

    static void promise24ForeignByteIsTheFirst() {
        errorAt(0, " ab|cd");
        errorAt(0, "|");
        errorAt(0, "1");
    }

    static void promise24ForeignByteIsTheLast() {
        errorAt(4, "ab|c-");
        errorAt(5, "ab|cd-");
    }

    static void promise24ForeignByteInARowsEndsPlace() {
        errorAt(2, "ab,cd");
        errorAt(7, "abcdefg,");
    }

    static void promise24BytesBesideTheRunes() {
        errorAt(4, "ab|c`");
        errorAt(4, "ab|c{");
        errorAt(4, "ab|c@");
        errorAt(4, "ab|c[");
    }

    static void promise24BytesBesideTheOthers() {
        errorAt(4, "ab|c-");
        errorAt(4, "ab|c0");
        errorAt(4, "ab|c]");
        errorAt(4, "ab|c\"");
        errorAt(4, "ab|c$");
        errorAt(4, "ab|c9");
        errorAt(4, "ab|c;");
    }

    static void promise24LeastAndGreatestByte() {
        errorAt(4, "ab|c\u0000");
        errorAt(4, "ab|c\u007f");
        errorAt(4, "ab|c}");
    }

    static void promise24FirstOfTwoErrors() {
        errorAt(1, "a|?");
        errorAt(2, "ab?|");
    }

    static void promise24EndsInTheFirstRow() {
        errorAt(1, "a");
        errorAt(2, "ab");
        errorAt(7, "abcdefg");
    }

    static void promise24EndsBehindTheFirstRowsEnd() {
        errorAt(3, "ab|");
        errorAt(8, "abcdefg|");
    }

    static void promise24EndsInTheSecondRow() {
        errorAt(4, "ab|c");
        errorAt(14, "abcdefg|abcdef");
    }

    static void promise24EndsBehindALaterRowsEnd() {
        errorAt(6, "ab|cd|");
        errorAt(18, "..|..|..|..|..|..|");
    }

    static void promise24EndsInTheLastRow() {
        errorAt(7, "ab|cd|e");
        errorAt(19, "..|..|..|..|..|..|.");
        errorAt(54, LARGEST.substring(0, 54));
    }

    static void promise24FullText() {
        errorAt(55, SIXTY_BYTES);
        errorAt(7, "a".repeat(60));
        errorAt(0, "|".repeat(60));
    }

    static void promise24TextThatWasLonger() {
        RuneBands stone = withText(LARGEST);
        Stones.write(stone, "ab|cd");
        Check.same("parse()", stone.parse(), 4);
        Check.sameText("cells", Stones.cells(stone), "ab|cd");
    }

    static void promise24TextStays() {
        RuneBands stone = withText("ab|c");
        Check.same("parse()", stone.parse(), -14);
        stone.append('d');
        Check.same("parse()", stone.parse(), 4);
        Check.same("parse() again", stone.parse(), 4);
        stone.append('e');
        Check.same("one cell too many", stone.parse(), -15);
    }

    static void promise24SavedEvenIfNothingChanges() {
        RuneBands stone = new RuneBands();
        Stones.write(stone, "....|....|....|....");
        Check.same("parse()", stone.parse(), 0);
        Check.same("undo()", stone.undo(), 0);
    }

    static void promise24OldCellsAreGone() {
        RuneBands stone = withText(LARGEST);
        stone.parse();
        Stones.write(stone, "..|..");
        Check.same("parse()", stone.parse(), 0);
        Check.same("runes", stone.value(2), 0);
        Check.same("bands", stone.value(7), 4);
    }
}
