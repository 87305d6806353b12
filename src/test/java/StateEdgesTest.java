import java.util.function.Consumer;

/** Promises 25 and 26, "Undo" of the terms, and the last call of an object: each case at a boundary is a method of its own. */
public final class StateEdgesTest {
    public static void main(String[] args) throws IllegalAccessException {
        Cases.run(StateEdgesTest.class);
    }

    // ---- promise 25: undo, with "Undo" of the terms

    /** So many runes were set, one a call: as many states were saved, with 0, 1, 2 .. runes. */
    private static RuneBands withRunes(int runes) {
        RuneBands stone = new RuneBands();
        for (int cell = 0; cell < runes; cell++) {
            stone.setCell(cell, 'a');
        }
        return stone;
    }

    private static void undoes(RuneBands stone, int... runes) {
        for (int index = 0; index < runes.length; index++) {
            Check.same("states that remain", stone.undo(), runes.length - 1 - index);
            Check.same("runes", stone.value(2), runes[index]);
        }
        Check.sameText("one more", Check.thrown(stone::undo), "java.lang.IllegalStateException");
    }

    static void promise25NoSavedState() {
        Refusal.state(RuneBands::new, RuneBands::undo);
    }

    static void promise25NoSavedStateButATextAndQuestions() {
        Refusal.state(() -> {
            RuneBands stone = new RuneBands();
            Stones.write(stone, "ab|c");
            stone.parse();
            stone.repair();
            stone.choices(50);
            return stone;
        }, RuneBands::undo);
    }

    static void promise25OneSavedState() {
        undoes(withRunes(1), 0);
    }

    static void promise25FourSavedStates() {
        undoes(withRunes(4), 3, 2, 1, 0);
    }

    static void promise25FifthSavedStateDropsTheOldest() {
        undoes(withRunes(5), 4, 3, 2, 1);
    }

    static void promise25EighthAndNinthSavedState() {
        undoes(withRunes(8), 7, 6, 5, 4);
        undoes(withRunes(9), 8, 7, 6, 5);
    }

    static void promise25AllUndoneTheLastIsRefused() {
        Refusal.state(() -> {
            RuneBands stone = withRunes(4);
            for (int times = 0; times < 4; times++) {
                stone.undo();
            }
            return stone;
        }, RuneBands::undo);
    }

    static void promise25UndoneStateIsRemoved() {
        RuneBands stone = withRunes(5);
        stone.undo();
        stone.undo();
        stone.setCell(15, 'z');
        undoes(stone, 3, 2, 1);
    }

    static void promise25DroppedStateDoesNotComeBack() {
        RuneBands stone = withRunes(5);
        stone.undo();
        stone.setCell(15, 'z');
        undoes(stone, 4, 3, 2, 1);
    }

    static void promise25UndoIsNotUndoable() {
        RuneBands stone = withRunes(2);
        Check.same("states that remain", stone.undo(), 1);
        Check.same("states that remain", stone.undo(), 0);
        Check.same("runes", stone.value(2), 0);
    }

    static void promise25SavedAgainBehindAllUndone() {
        RuneBands stone = withRunes(1);
        stone.undo();
        stone.setCell(0, 'b');
        undoes(stone, 0);
    }

    static void promise25TextIsNotRestored() {
        RuneBands stone = new RuneBands();
        Stones.write(stone, "ab");
        stone.setCell(0, 'a');
        stone.append('c');
        stone.undo();
        Check.same("clearText()", stone.clearText(), 3);
    }

    static void promise25ClearedTextStaysCleared() {
        RuneBands stone = new RuneBands();
        Stones.write(stone, "ab|cd");
        stone.parse();
        stone.clearText();
        stone.undo();
        Check.same("clearText()", stone.clearText(), 0);
    }

    static void promise25ListIsRestored() {
        RuneBands stone = Refusal.heavy();
        stone.removeWord(0);
        stone.removeWord(6);
        stone.undo();
        stone.undo();
        Check.sameText("the list", Stones.words(stone), "a b abcdefgh cc ac ca bb ba");
    }

    static void promise25ShapeAndCellsAreRestored() {
        RuneBands stone = Stones.of("a.....#|....../");
        stone.turnStone();
        stone.setSize(7, 7);
        stone.undo();
        Check.sameText("cells", Stones.cells(stone), ".a|..|..|..|..|..|\\#");
        stone.undo();
        Check.sameText("cells", Stones.cells(stone), "a.....#|....../");
    }

    static void promise25BandsFollow() {
        RuneBands stone = Stones.of("..|..");
        stone.setCell(0, '/');
        stone.undo();
        Check.same("band(0, 1)", stone.band(0, 1), 4);
        Check.same("band(0, 3)", stone.band(0, 3), 2);
    }

    /** The call saves one state, and with it everything but the text comes back; a fourth state is the last that stays. */
    private static void saves(Consumer<RuneBands> call) {
        RuneBands light = Refusal.light();
        call.accept(light);
        Check.same("states that remain", light.undo(), 3);
        RuneBands twin = Refusal.light();
        light.clearText();
        twin.clearText();
        Check.sameText("the object behind it", Refusal.whole(light), Refusal.whole(twin));
        RuneBands heavy = Refusal.heavy();
        call.accept(heavy);
        Check.same("states that remain", heavy.undo(), 3);
    }

    private static void savesNothing(Consumer<RuneBands> call) {
        RuneBands light = Refusal.light();
        call.accept(light);
        Check.same("states that remain", light.undo(), 2);
        RuneBands heavy = Refusal.heavy();
        RuneBands twin = Refusal.heavy();
        call.accept(heavy);
        for (int times = 3; times >= 0; times--) {
            Check.same("states that remain", heavy.undo(), times);
            twin.undo();
            Check.sameText("cells", Stones.cells(heavy), Stones.cells(twin));
            Check.sameText("the list", Stones.words(heavy), Stones.words(twin));
        }
    }

    static void termsSetSizeIsUndoable() {
        saves(stone -> stone.setSize(7, 2));
    }

    static void termsSetSizeThatChangesNothingIsUndoable() {
        saves(stone -> stone.setSize(3, 2));
    }

    static void termsSetCellIsUndoable() {
        saves(stone -> stone.setCell(5, '#'));
    }

    static void termsSetCellThatChangesNothingIsUndoable() {
        saves(stone -> stone.setCell(5, stone.cell(5, 0)));
    }

    static void termsTurnCornersIsUndoable() {
        saves(RuneBands::turnCorners);
    }

    static void termsTurnCornersThatChangesNothingIsUndoable() {
        RuneBands stone = Stones.of("ab|#:");
        stone.turnCorners();
        Check.same("states that remain", stone.undo(), 1);
    }

    static void termsTurnStoneIsUndoable() {
        saves(RuneBands::turnStone);
    }

    static void termsTurnStoneThatChangesNothingIsUndoable() {
        RuneBands stone = Stones.of("..|..");
        stone.turnStone();
        Check.same("states that remain", stone.undo(), 1);
    }

    static void termsAddWordIsUndoable() {
        RuneBands stone = Refusal.light();
        Stones.addWord(stone, "q");
        Check.same("states that remain", stone.undo(), 3);
        Check.sameText("the list", Stones.words(stone), "ab c");
    }

    static void termsRemoveWordIsUndoable() {
        saves(stone -> stone.removeWord(0));
        saves(stone -> stone.removeWord(1));
    }

    static void termsParseIsUndoable() {
        saves(stone -> {
            Stones.write(stone, "xy.|../");
            stone.parse();
        });
    }

    static void termsParseThatChangesNothingIsUndoable() {
        saves(stone -> {
            Stones.write(stone, Stones.cells(stone));
            stone.parse();
        });
    }

    static void termsParseWithAnErrorSavesNothing() {
        savesNothing(stone -> {
            Stones.write(stone, "xy.|..");
            stone.parse();
        });
    }

    static void termsTextCallsSaveNothing() {
        savesNothing(stone -> stone.append('a'));
        savesNothing(RuneBands::clearText);
    }

    static void termsQuestionsSaveNothing() {
        savesNothing(stone -> {
            stone.cell(0, 3);
            stone.value(7);
            stone.word(0, 0);
            stone.band(0, 0);
            stone.cellOf(0, 0);
            stone.read(0, 0);
            stone.wordsOf(0);
            stone.alike(0);
        });
    }

    static void termsQuestionsOfChoicesSaveNothing() {
        savesNothing(stone -> {
            stone.choices(50);
            stone.nodes(50);
            stone.chosen(0);
            stone.fewest();
            stone.repair();
            stone.told();
            stone.digest();
        });
    }

    static void termsRefusedCallsSaveNothing() {
        savesNothing(stone -> {
            Check.thrown(() -> stone.setSize(1, 2));
            Check.thrown(() -> stone.setCell(6, 'a'));
            Check.thrown(() -> stone.setCell(0, '|'));
            stone.append('!');
            Check.thrown(stone::addWord);
            Check.thrown(() -> stone.removeWord(8));
        });
    }

    // ---- promise 26: digest. An empty 2 by 2 stone's is reckoned here from the document's words.

    /** Behind the text's length and the ten numbers, for a stone of 2 by 2 empty cells: its cells, gates, and choices. */
    private static long emptyStoneDigest(int textLength, int saved) {
        long[] values = {
            textLength, 2, 2, 0, 0, 0, 0, 8, 4, 0, 0,
            '.', 2, 0, 2, -1, '.', 2, 1, 2, -1, '.', 3, 0, 2, -1, '.', 3, 1, 2, -1,
            0, 4, 2, 2, 0, 0, 0, -1, 1, 5, 3, 2, 0, 0, 0, -1, 2, 6, 0, 2, 0, 0, 0, -1, 3, 7, 2, 2, 0, 0, 0, -1,
            0, 0, 0, 2, 0, 0, 0, -1, 1, 1, 1, 2, 0, 0, 0, -1, 2, 2, 1, 2, 0, 0, 0, -1, 3, 3, 3, 2, 0, 0, 0, -1,
            1, saved,
        };
        long hash = 3499;
        for (long value : values) {
            hash = 31 * hash + value;
        }
        return hash;
    }

    private static RuneBands emptyStone(int textLength) {
        RuneBands stone = new RuneBands();
        stone.setSize(2, 2);
        Stones.write(stone, "a".repeat(textLength));
        return stone;
    }

    private static void digestIsTheOracles(String text, String... words) {
        RuneBands stone = Stones.of(text, words);
        Oracle oracle = new Oracle();
        write(oracle, text);
        oracle.parse();
        for (String word : words) {
            write(oracle, word);
            oracle.addWord();
        }
        Check.same("digest() of " + text, stone.digest(), oracle.digest());
    }

    private static void write(Oracle oracle, String text) {
        oracle.clearText();
        for (int index = 0; index < text.length(); index++) {
            oracle.append(text.charAt(index));
        }
    }

    static void promise26EmptyTextAndList() {
        Check.same("digest()", emptyStone(0).digest(), emptyStoneDigest(0, 1));
    }

    static void promise26FullText() {
        Check.same("digest()", emptyStone(60).digest(), emptyStoneDigest(60, 1));
    }

    static void promise26NoSavedState() {
        Check.same("digest()", new RuneBands().digest(), new Oracle().digest());
    }

    static void promise26FourSavedStates() {
        RuneBands stone = emptyStone(0);
        for (int times = 2; times <= 4; times++) {
            stone.setSize(2, 2);
            Check.same("digest()", stone.digest(), emptyStoneDigest(0, times));
        }
    }

    static void promise26FifthSavedStateIsNotCounted() {
        RuneBands stone = emptyStone(0);
        for (int times = 2; times <= 5; times++) {
            stone.setSize(2, 2);
        }
        Check.same("digest()", stone.digest(), emptyStoneDigest(0, 4));
    }

    static void promise26OnlyTheLengthOfTheTextCounts() {
        RuneBands one = emptyStone(2);
        RuneBands other = emptyStone(0);
        Stones.write(other, "|?");
        Check.same("digest()", one.digest(), other.digest());
    }

    static void promise26OverflowIsIgnored() {
        digestIsTheOracles("abcdefg|hijklmn|opqrstu|vwxyzAB|CDEFGHI|JKLMNOP|QRSTUVW");
    }

    static void promise26FullList() {
        digestIsTheOracles("ab|cd", "abcdefgh", "b", "cc", "ddd", "a", "ab", "ba", "zzzzzzzz");
    }

    static void promise26ReadingsBetweenTheGates() {
        digestIsTheOracles(":a::B:|::.:::");
    }

    static void promise26BrokenBandsAndNoBands() {
        digestIsTheOracles(".#.|#a#|.#.", "a");
        digestIsTheOracles("##|##");
    }

    static void promise26BandThatCrossesItself() {
        digestIsTheOracles("./\\|.A/|...", "a", "aa");
    }

    static void promise26MoreThanThreeChoices() {
        digestIsTheOracles("ab.|..c");
    }

    static void promise26NoChoice() {
        digestIsTheOracles("/a|aa");
    }

    static void promise26ChangesNothing() {
        RuneBands stone = Refusal.heavy();
        long first = stone.digest();
        Check.same("digest() again", stone.digest(), first);
        Check.sameText("the object", Refusal.whole(stone), Refusal.whole(Refusal.heavy()));
    }

    // ---- what it is: an object is used for at most 512 calls

    static void termsCall512IsAnswered() {
        RuneBands stone = new RuneBands();
        for (int call = 1; call <= 509; call++) {
            stone.setCell(call % 15, call % 2 == 0 ? '.' : 'a');
        }
        Check.same("call 510", stone.undo(), 3);
        Check.same("call 511", stone.setCell(509 % 15, '#'), '.');
        Check.same("call 512", stone.value(2), 7);
    }

    static void termsCall512OfBytesIsAnswered() {
        RuneBands stone = new RuneBands();
        for (int call = 1; call <= 60; call++) {
            stone.append('a');
        }
        for (int call = 61; call <= 511; call++) {
            Check.sameText("call " + call, Check.thrown(() -> stone.append('a')), "java.lang.IllegalStateException");
        }
        Check.same("call 512", stone.clearText(), 60);
    }
}
