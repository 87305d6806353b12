/** Promises 1 to 5, 8 and 9, and "Stone" of the terms: each case at a boundary is a method of its own. */
public final class StoneEdgesTest {
    private static final String LARGEST_FULL = "aaaaaaa|aaaaaaa|aaaaaaa|aaaaaaa|aaaaaaa|aaaaaaa|aaaaaaa";

    public static void main(String[] args) throws IllegalAccessException {
        Cases.run(StoneEdgesTest.class);
    }

    // ---- promise 1: a new object

    static void promise1WidthIsFour() {
        Check.same("value(0)", new RuneBands().value(0), 4);
    }

    static void promise1HeightIsFour() {
        Check.same("value(1)", new RuneBands().value(1), 4);
    }

    static void promise1EachCellIsEmpty() {
        Check.sameText("cells", Stones.cells(new RuneBands()), "....|....|....|....");
    }

    static void promise1NoCellBehindTheSixteenth() {
        Refusal.index(RuneBands::new, stone -> stone.cell(16, 0));
    }

    static void promise1ListIsEmpty() {
        Check.same("value(9)", new RuneBands().value(9), 0);
        Refusal.index(RuneBands::new, stone -> stone.word(0, 0));
    }

    static void promise1TextIsEmpty() {
        Check.same("clearText()", new RuneBands().clearText(), 0);
    }

    static void promise1NoStateIsSaved() {
        Refusal.state(RuneBands::new, RuneBands::undo);
    }

    static void promise1ObjectsAreApart() {
        RuneBands one = new RuneBands();
        RuneBands other = new RuneBands();
        one.setSize(2, 7);
        one.setCell(0, 'a');
        Stones.addWord(one, "a");
        Check.sameText("the other one", Refusal.whole(other), Refusal.whole(new RuneBands()));
    }

    // ---- promise 2: setSize

    private static void sizeStands(int width, int height, int gates) {
        RuneBands stone = Stones.of(LARGEST_FULL);
        Check.same("setSize()", stone.setSize(width, height), gates);
        Check.same("the width", stone.value(0), width);
        Check.same("the height", stone.value(1), height);
        Check.same("the gates", stone.value(6), gates);
        StringBuilder empty = new StringBuilder(".".repeat(width));
        for (int row = 1; row < height; row++) {
            empty.append('|').append(".".repeat(width));
        }
        Check.sameText("the cells", Stones.cells(stone), empty.toString());
        Check.same("the last gate's cell", stone.cellOf(gates - 1, 0), width * (height - 1));
        Refusal.index(() -> sized(width, height), one -> one.cell(width * height, 0));
        Refusal.index(() -> sized(width, height), one -> one.band(gates, 0));
    }

    private static RuneBands sized(int width, int height) {
        RuneBands stone = new RuneBands();
        stone.setSize(width, height);
        return stone;
    }

    static void promise2SmallestStone() {
        sizeStands(2, 2, 8);
    }

    static void promise2LargestStone() {
        sizeStands(7, 7, 28);
    }

    static void promise2NarrowestAndHighest() {
        sizeStands(2, 7, 18);
    }

    static void promise2WidestAndLowest() {
        sizeStands(7, 2, 18);
    }

    static void promise2WidthSmallest() {
        sizeStands(2, 4, 12);
    }

    static void promise2WidthLargest() {
        sizeStands(7, 4, 22);
    }

    static void promise2HeightSmallest() {
        sizeStands(4, 2, 12);
    }

    static void promise2HeightLargest() {
        sizeStands(4, 7, 22);
    }

    static void promise2WidthOneTooSmall() {
        Refusal.argument(stone -> stone.setSize(1, 4));
    }

    static void promise2WidthOneTooLarge() {
        Refusal.argument(stone -> stone.setSize(8, 4));
    }

    static void promise2HeightOneTooSmall() {
        Refusal.argument(stone -> stone.setSize(4, 1));
    }

    static void promise2HeightOneTooLarge() {
        Refusal.argument(stone -> stone.setSize(4, 8));
    }

    static void promise2BothOutOfRange() {
        Refusal.argument(stone -> stone.setSize(1, 8));
        Refusal.argument(stone -> stone.setSize(8, 1));
    }

    static void promise2NoCells() {
        Refusal.argument(stone -> stone.setSize(0, 0));
        Refusal.argument(stone -> stone.setSize(0, 7));
    }

    static void promise2FarOutOfRange() {
        Refusal.argument(stone -> stone.setSize(-2, -2));
        Refusal.argument(stone -> stone.setSize(Integer.MAX_VALUE, 2));
        Refusal.argument(stone -> stone.setSize(2, Integer.MAX_VALUE));
        Refusal.argument(stone -> stone.setSize(Integer.MIN_VALUE, 7));
        Refusal.argument(stone -> stone.setSize(7, Integer.MIN_VALUE));
    }

    static void promise2SameSizeEmptiesTheCells() {
        RuneBands stone = Stones.of("ab|/#");
        Check.same("setSize()", stone.setSize(2, 2), 8);
        Check.sameText("cells", Stones.cells(stone), "..|..");
        Check.same("runes", stone.value(2), 0);
    }

    static void promise2GrownAgainTheCellsAreEmpty() {
        RuneBands stone = Stones.of(LARGEST_FULL);
        stone.setSize(2, 2);
        stone.setSize(7, 7);
        Check.same("runes", stone.value(2), 0);
        Check.same("the last cell", stone.cell(48, 0), '.');
    }

    static void promise2SavedEvenIfNothingChanges() {
        RuneBands stone = new RuneBands();
        stone.setSize(4, 4);
        Check.same("states that remain", stone.undo(), 0);
        Check.sameText("the object", Refusal.whole(stone), Refusal.whole(new RuneBands()));
    }

    static void promise2UndoFromTheSmallestToTheLargest() {
        RuneBands stone = Stones.of(LARGEST_FULL);
        stone.setSize(2, 2);
        stone.undo();
        Check.sameText("cells", Stones.cells(stone), LARGEST_FULL);
        Check.same("gates", stone.value(6), 28);
    }

    static void promise2ListAndTextStay() {
        RuneBands stone = Refusal.heavy();
        stone.setSize(2, 2);
        Check.same("words", stone.value(9), 8);
        Check.same("bytes", stone.clearText(), 3);
    }

    // ---- promise 3: setCell

    private static void byteStands(int value) {
        RuneBands stone = Stones.of("..|.A");
        Check.same("setCell()", stone.setCell(3, value), 'A');
        Check.same("the cell's byte", stone.cell(3, 0), value);
        Check.same("the previous one, asked by the next call", stone.setCell(3, '.'), value);
    }

    private static void byteRefused(int value) {
        Refusal.argument(stone -> stone.setCell(0, value));
        Refusal.argument(stone -> stone.setCell(5, value));
    }

    private static void cellIsTheLast(int width, int height) {
        int last = width * height - 1;
        RuneBands stone = sized(width, height);
        Check.same("setCell()", stone.setCell(last, 'q'), '.');
        Check.same("the last cell", stone.cell(last, 0), 'q');
        Check.same("the last cell's band from the right", stone.read(width + height - 1, 0), 'q');
        Refusal.index(() -> sized(width, height), one -> one.setCell(last + 1, 'q'));
    }

    static void promise3CellOneTooSmall() {
        Refusal.index(stone -> stone.setCell(-1, 'a'));
    }

    static void promise3CellSmallest() {
        RuneBands stone = new RuneBands();
        Check.same("setCell()", stone.setCell(0, 'q'), '.');
        Check.sameText("cells", Stones.cells(stone), "q...|....|....|....");
    }

    static void promise3CellLargest() {
        RuneBands stone = new RuneBands();
        Check.same("setCell()", stone.setCell(15, 'q'), '.');
        Check.sameText("cells", Stones.cells(stone), "....|....|....|...q");
    }

    static void promise3CellOneTooLarge() {
        Refusal.index(stone -> stone.setCell(6, 'a'));
        Refusal.index(RuneBands::new, stone -> stone.setCell(16, 'a'));
    }

    static void promise3CellLargestOfTheSmallestStone() {
        cellIsTheLast(2, 2);
    }

    static void promise3CellLargestOfTheLargestStone() {
        cellIsTheLast(7, 7);
    }

    static void promise3CellLargestOfTheWidestAndLowest() {
        cellIsTheLast(7, 2);
    }

    static void promise3CellLargestOfTheNarrowestAndHighest() {
        cellIsTheLast(2, 7);
    }

    static void promise3CellFarOutOfRange() {
        Refusal.index(stone -> stone.setCell(Integer.MIN_VALUE, 'a'));
        Refusal.index(stone -> stone.setCell(Integer.MAX_VALUE, 'a'));
        Refusal.index(stone -> stone.setCell(48, 'a'));
    }

    static void promise3CellFirstOfTheSecondRow() {
        RuneBands stone = sized(3, 2);
        stone.setCell(3, 'q');
        Check.sameText("cells", Stones.cells(stone), "...|q..");
        Check.same("from the left of the second row", stone.read(9, 0), 'q');
    }

    static void promise3ByteEmpty() {
        byteStands('.');
    }

    static void promise3ByteOfTheFirstRune() {
        byteStands('a');
    }

    static void promise3ByteOfTheLastRune() {
        byteStands('z');
    }

    static void promise3ByteOfTheFirstSharedRune() {
        byteStands('A');
    }

    static void promise3ByteOfTheLastSharedRune() {
        byteStands('Z');
    }

    static void promise3ByteOfTheCorners() {
        byteStands('/');
        byteStands('\\');
    }

    static void promise3ByteOfTheBrokenCorner() {
        byteStands('#');
    }

    static void promise3ByteOfTheStop() {
        byteStands(':');
    }

    static void promise3ByteBelowTheRunes() {
        byteRefused('a' - 1);
    }

    static void promise3ByteAboveTheRunes() {
        byteRefused('z' + 1);
    }

    static void promise3ByteBelowTheSharedRunes() {
        byteRefused('A' - 1);
    }

    static void promise3ByteAboveTheSharedRunes() {
        byteRefused('Z' + 1);
    }

    static void promise3ByteBelowEmpty() {
        byteRefused('.' - 1);
    }

    static void promise3ByteAboveTheRisingCorner() {
        byteRefused('/' + 1);
    }

    static void promise3ByteAboveTheFallingCorner() {
        byteRefused('\\' + 1);
    }

    static void promise3ByteBesideTheBrokenCorner() {
        byteRefused('#' - 1);
        byteRefused('#' + 1);
    }

    static void promise3ByteBesideTheStop() {
        byteRefused(':' - 1);
        byteRefused(':' + 1);
    }

    static void promise3ByteOfARowsEnd() {
        byteRefused('|');
    }

    static void promise3ByteOfAReadingsSpace() {
        byteRefused(' ');
    }

    static void promise3ByteFarOutOfRange() {
        byteRefused(0);
        byteRefused(-1);
        byteRefused(127);
        byteRefused(128);
        byteRefused('a' + 256);
        byteRefused('.' - 256);
        byteRefused(Integer.MAX_VALUE);
        byteRefused(Integer.MIN_VALUE);
    }

    static void promise3CellAndByteWrongTheCellIsFirst() {
        Refusal.index(stone -> stone.setCell(-1, '|'));
        Refusal.index(stone -> stone.setCell(6, 0));
    }

    static void promise3SavedEvenIfNothingChanges() {
        RuneBands stone = new RuneBands();
        Check.same("setCell()", stone.setCell(0, '.'), '.');
        Check.same("states that remain", stone.undo(), 0);
    }

    // ---- promise 4: turnCorners

    static void promise4NoCorner() {
        RuneBands stone = Stones.of("aB|#:");
        Check.same("turnCorners()", stone.turnCorners(), 0);
        Check.sameText("cells", Stones.cells(stone), "aB|#:");
    }

    static void promise4SavedEvenIfNothingChanges() {
        RuneBands stone = new RuneBands();
        stone.turnCorners();
        Check.same("states that remain", stone.undo(), 0);
    }

    static void promise4CornerInTheFirstCell() {
        RuneBands stone = Stones.of("/..|...");
        Check.same("turnCorners()", stone.turnCorners(), 1);
        Check.sameText("cells", Stones.cells(stone), "\\..|...");
    }

    static void promise4CornerInTheLastCell() {
        RuneBands stone = Stones.of("...|..\\");
        Check.same("turnCorners()", stone.turnCorners(), 1);
        Check.sameText("cells", Stones.cells(stone), "...|../");
    }

    static void promise4EachCellOfTheLargestStoneIsACorner() {
        RuneBands stone = Stones.of("/\\/\\/\\/|/\\/\\/\\/|/\\/\\/\\/|/\\/\\/\\/|/\\/\\/\\/|/\\/\\/\\/|/\\/\\/\\/");
        Check.same("turnCorners()", stone.turnCorners(), 49);
        Check.sameText("cells", Stones.cells(stone),
            "\\/\\/\\/\\|\\/\\/\\/\\|\\/\\/\\/\\|\\/\\/\\/\\|\\/\\/\\/\\|\\/\\/\\/\\|\\/\\/\\/\\");
    }

    static void promise4BrokenCornersAreNotTurned() {
        RuneBands stone = Stones.of("#/|\\#");
        Check.same("turnCorners()", stone.turnCorners(), 2);
        Check.sameText("cells", Stones.cells(stone), "#\\|/#");
    }

    static void promise4TwiceIsAsBefore() {
        RuneBands stone = Stones.of("a/\\|#\\:");
        stone.turnCorners();
        Check.same("turnCorners()", stone.turnCorners(), 3);
        Check.sameText("cells", Stones.cells(stone), "a/\\|#\\:");
    }

    static void promise4BandsFollow() {
        RuneBands stone = Stones.of("/.|..");
        stone.turnCorners();
        Check.same("band(0, 1)", stone.band(0, 1), 2);
        Check.same("band(0, 3)", stone.band(0, 3), 2);
    }

    // ---- promise 5: turnStone

    private static void turned(String before, String after, int gates) {
        RuneBands stone = Stones.of(before);
        Check.same("turnStone()", stone.turnStone(), gates);
        Check.sameText("cells", Stones.cells(stone), after);
        Check.same("the gates", stone.value(6), gates);
    }

    static void promise5SmallestStone() {
        turned("ab|cd", "ca|db", 8);
    }

    static void promise5LargestStone() {
        turned("abcdefg|h......|i......|j......|k......|l......|m.....z",
            "mlkjiha|......b|......c|......d|......e|......f|z.....g", 28);
    }

    static void promise5WidestAndLowest() {
        turned("abcdefg|hijklmn", "ha|ib|jc|kd|le|mf|ng", 18);
    }

    static void promise5NarrowestAndHighest() {
        turned("ab|cd|ef|gh|ij|kl|mn", "mkigeca|nljhfdb", 18);
    }

    static void promise5FirstRowBecomesTheLastColumn() {
        turned("abc|...", ".a|.b|.c", 10);
    }

    static void promise5CornersTurnWithIt() {
        turned("/\\.|...", ".\\|./|..", 10);
        turned("...|\\./", "/.|..|\\.", 10);
    }

    static void promise5BrokenCornersTurnWithIt() {
        turned("#..|...", ".#|..|..", 10);
    }

    static void promise5FourTimesIsAsBefore() {
        RuneBands stone = Stones.of("a/#|B\\:|c..|../");
        for (int times = 1; times <= 4; times++) {
            Check.same("turnStone()", stone.turnStone(), 14);
        }
        Check.sameText("cells", Stones.cells(stone), "a/#|B\\:|c..|../");
    }

    static void promise5SavedEvenIfNothingChanges() {
        RuneBands stone = new RuneBands();
        stone.turnStone();
        Check.same("states that remain", stone.undo(), 0);
    }

    static void promise5UndoBringsTheOldShapeBack() {
        RuneBands stone = Stones.of("ab.....|......c");
        stone.turnStone();
        stone.undo();
        Check.sameText("cells", Stones.cells(stone), "ab.....|......c");
        Check.same("width", stone.value(0), 7);
    }

    static void promise5BandsFollow() {
        RuneBands stone = Stones.of("#..|...");
        stone.turnStone();
        Check.same("band(0, 3)", stone.band(0, 3), 3);
        Check.same("band(1, 1)", stone.band(1, 1), RuneBands.NONE);
    }

    // ---- promise 8: cell

    static void promise8CellOneTooSmall() {
        for (int what = 0; what <= 4; what++) {
            int asked = what;
            Refusal.index(stone -> stone.cell(-1, asked));
        }
    }

    static void promise8CellOneTooLarge() {
        for (int what = 0; what <= 4; what++) {
            int asked = what;
            Refusal.index(stone -> stone.cell(6, asked));
        }
    }

    static void promise8CellSmallest() {
        Check.same("cell(0, 0)", Refusal.light().cell(0, 0), 'a');
    }

    static void promise8CellLargest() {
        Check.same("cell(5, 0)", Refusal.light().cell(5, 0), 'c');
        Check.same("cell(48, 0)", Stones.of(LARGEST_FULL).cell(48, 0), 'a');
        Check.same("cell(48, 3)", Stones.of(LARGEST_FULL).cell(48, 3), 2);
    }

    static void promise8CellOneTooLargeOfTheLargestStone() {
        Refusal.index(() -> Stones.of(LARGEST_FULL), stone -> stone.cell(49, 0));
    }

    static void promise8CellOfAStoneThatWasLarger() {
        Refusal.index(stone -> stone.cell(15, 0));
    }

    static void promise8CellFarOutOfRange() {
        Refusal.index(stone -> stone.cell(Integer.MIN_VALUE, 0));
        Refusal.index(stone -> stone.cell(Integer.MAX_VALUE, 0));
    }

    static void promise8WhatOneTooSmall() {
        Refusal.argument(stone -> stone.cell(0, -1));
    }

    static void promise8WhatSmallest() {
        Check.same("cell(1, 0)", Refusal.light().cell(1, 0), 'B');
    }

    static void promise8WhatLargest() {
        Check.same("cell(1, 4)", Refusal.light().cell(1, 4), 1);
    }

    static void promise8WhatOneTooLarge() {
        Refusal.argument(stone -> stone.cell(5, 5));
    }

    static void promise8WhatFarOutOfRange() {
        Refusal.argument(stone -> stone.cell(0, Integer.MIN_VALUE));
        Refusal.argument(stone -> stone.cell(0, Integer.MAX_VALUE));
    }

    static void promise8CellAndWhatWrongTheCellIsFirst() {
        Refusal.index(stone -> stone.cell(6, 5));
        Refusal.index(stone -> stone.cell(-1, -1));
    }

    /** Broken corners on all four sides: nothing comes into the middle. */
    static void promise8NoBandInARow() {
        Check.same("cell(4, 1)", Stones.of(".#.|#a#|.#.").cell(4, 1), RuneBands.NONE);
    }

    static void promise8NoBandInAColumn() {
        Check.same("cell(4, 2)", Stones.of(".#.|#a#|.#.").cell(4, 2), RuneBands.NONE);
    }

    static void promise8NoBandAtAll() {
        Check.same("cell(4, 3)", Stones.of(".#.|#a#|.#.").cell(4, 3), 0);
    }

    static void promise8NoBandInARowOnlyInAColumn() {
        RuneBands stone = Stones.of("...|#a#|...");
        Check.same("cell(4, 1)", stone.cell(4, 1), RuneBands.NONE);
        Check.same("cell(4, 2)", stone.cell(4, 2), 1);
        Check.same("cell(4, 3)", stone.cell(4, 3), 1);
    }

    static void promise8NoBandInAColumnOnlyInARow() {
        RuneBands stone = Stones.of(".#.|.a.|.#.");
        Check.same("cell(4, 1)", stone.cell(4, 1), 4);
        Check.same("cell(4, 2)", stone.cell(4, 2), RuneBands.NONE);
        Check.same("cell(4, 3)", stone.cell(4, 3), 1);
    }

    /** Bands 4 and 10 end in the middle from the right and the left, 1 and 7 from above and below. */
    static void promise8LowestOfTwoBandsInARow() {
        Check.same("cell(4, 1)", Stones.of("...|.#.|...").cell(4, 1), 4);
    }

    static void promise8LowestOfTwoBandsInAColumn() {
        Check.same("cell(4, 2)", Stones.of("...|.#.|...").cell(4, 2), 1);
    }

    static void promise8FourBandsInOneCell() {
        Check.same("cell(4, 3)", Stones.of("...|.#.|...").cell(4, 3), 4);
    }

    static void promise8BandZero() {
        RuneBands stone = Stones.of("..|..");
        Check.same("cell(0, 2)", stone.cell(0, 2), 0);
        Check.same("cell(0, 1)", stone.cell(0, 1), 2);
    }

    /** Band 4 comes into cell 0 upward, from its number's gate; from its other end, gate 6, it would come rightward. */
    static void promise8BandIsTakenFromItsNumbersGateAlone() {
        RuneBands stone = Stones.of("\\.|..");
        Check.same("band(6, 0)", stone.band(6, 0), 4);
        Check.same("cell(0, 1)", stone.cell(0, 1), RuneBands.NONE);
        Check.same("cell(0, 2)", stone.cell(0, 2), 0);
        Check.same("cell(0, 3)", stone.cell(0, 3), 2);
        Check.same("cell(2, 2)", stone.cell(2, 2), 4);
        Check.same("cell(1, 1)", stone.cell(1, 1), 0);
    }

    static void promise8BandThatCrossesItselfCountsTwice() {
        RuneBands stone = Stones.of("./\\|../|...");
        Check.same("cell(4, 1)", stone.cell(4, 1), 7);
        Check.same("cell(4, 2)", stone.cell(4, 2), 7);
        Check.same("cell(4, 3)", stone.cell(4, 3), 2);
    }

    static void promise8LetterOfTheFirstAndLastRunes() {
        RuneBands stone = Stones.of("az|AZ");
        Check.same("a", stone.cell(0, 4), 0);
        Check.same("z", stone.cell(1, 4), 25);
        Check.same("A", stone.cell(2, 4), 0);
        Check.same("Z", stone.cell(3, 4), 25);
    }

    static void promise8NoLetterWithoutARune() {
        RuneBands stone = Stones.of("./\\|#:a");
        for (int cell = 0; cell < 5; cell++) {
            Check.same("cell(" + cell + ", 4)", stone.cell(cell, 4), RuneBands.NONE);
        }
    }

    // ---- promise 9: value

    private static void values(String text, int... due) {
        RuneBands stone = Stones.of(text);
        for (int what = 0; what < due.length; what++) {
            Check.same("value(" + what + ") of " + text, stone.value(what), due[what]);
        }
    }

    static void promise9WhatOneTooSmall() {
        Refusal.argument(stone -> stone.value(-1));
    }

    static void promise9WhatSmallest() {
        Check.same("value(0)", Refusal.light().value(0), 3);
    }

    static void promise9WhatLargest() {
        Check.same("value(9)", Refusal.light().value(9), 2);
    }

    static void promise9WhatOneTooLarge() {
        Refusal.argument(stone -> stone.value(10));
    }

    static void promise9WhatFarOutOfRange() {
        Refusal.argument(stone -> stone.value(Integer.MIN_VALUE));
        Refusal.argument(stone -> stone.value(Integer.MAX_VALUE));
    }

    static void promise9EmptyStone() {
        values("....|....|....|....", 4, 4, 0, 0, 0, 0, 16, 8, 0, 0);
    }

    static void promise9SmallestStone() {
        values("..|..", 2, 2, 0, 0, 0, 0, 8, 4, 0, 0);
    }

    static void promise9LargestStone() {
        values(LARGEST_FULL, 7, 7, 49, 0, 0, 0, 28, 14, 0, 0);
    }

    static void promise9EachRuneIsShared() {
        values(LARGEST_FULL.replace('a', 'Z'), 7, 7, 49, 49, 0, 0, 28, 14, 0, 0);
    }

    static void promise9EachCellIsBroken() {
        values(LARGEST_FULL.replace('a', '#'), 7, 7, 0, 0, 0, 49, 28, 28, 0, 0);
    }

    static void promise9EachCellIsACorner() {
        values("//|//", 2, 2, 0, 0, 4, 0, 8, 4, 0, 0);
        values("\\\\|\\\\", 2, 2, 0, 0, 4, 0, 8, 4, 0, 0);
    }

    static void promise9FirstAndLastRunesCount() {
        values("az|AZ", 2, 2, 4, 2, 0, 0, 8, 4, 0, 0);
    }

    static void promise9TheFirstAndTheLastCellCount() {
        values("A..|..z", 3, 2, 2, 1, 0, 0, 10, 5, 0, 0);
        values("/..|..\\", 3, 2, 0, 0, 2, 0, 10, 5, 0, 0);
        values("#..|..#", 3, 2, 0, 0, 0, 2, 10, 9, 0, 0);
    }

    static void promise9OneBandThatCrossesItself() {
        values("./\\|../|...", 3, 3, 0, 0, 3, 0, 12, 6, 1, 0);
    }

    static void promise9BandThatCrossesItselfAndEndsAtABrokenCorner() {
        values("./\\|#./|...", 3, 3, 0, 0, 3, 1, 12, 8, 1, 0);
    }

    static void promise9FullList() {
        Check.same("value(9)", Refusal.heavy().value(9), 8);
    }
}
