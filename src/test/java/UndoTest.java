/** Promise 25: undo, and what saves a state. */
public final class UndoTest {
    private static final Class<?> STATE = IllegalStateException.class;

    public static void main(String[] args) {
        nothingSaved();
        whatSaves();
        whatDoesNotSave();
        fourStates();
        wholeState();
        undoAndGoOn();
        statesAreApart();
        Check.end();
    }

    private static void nothingSaved() {
        RuneBands stone = new RuneBands();
        Check.refused("undo() of a new object", stone, STATE, stone::undo);
        stone.setCell(0, 'a');
        Check.same("one was saved", stone.undo(), 0);
        Check.refused("and no more", stone, STATE, stone::undo);
        Check.same("the cell is as before", stone.cell(0, 0), '.');
    }

    /** An object with one saved state, a stone with a rune, one word and the text "ab|..". */
    private static RuneBands prepared() {
        RuneBands stone = new RuneBands();
        Stones.addWord(stone, "q");
        Stones.write(stone, "ab|..");
        return stone;
    }

    private static void saves(String name, RuneBands stone, Check.Call call) {
        String cells = Stones.cells(stone);
        String words = Stones.words(stone);
        call.run();
        Check.same(name + ": states that remain", stone.undo(), 1);
        Check.sameText(name + ": the cells", Stones.cells(stone), cells);
        Check.sameText(name + ": the list", Stones.words(stone), words);
    }

    private static void whatSaves() {
        RuneBands size = prepared();
        saves("setSize", size, () -> size.setSize(3, 5));
        RuneBands cell = prepared();
        saves("setCell", cell, () -> cell.setCell(3, '#'));
        RuneBands same = prepared();
        saves("setCell with the byte that is there", same, () -> same.setCell(3, '.'));
        RuneBands corners = prepared();
        saves("turnCorners", corners, corners::turnCorners);
        RuneBands turned = prepared();
        saves("turnStone", turned, turned::turnStone);
        RuneBands added = prepared();
        saves("addWord", added, () -> Stones.addWord(added, "ab"));
        RuneBands removed = prepared();
        saves("removeWord", removed, () -> removed.removeWord(0));
        RuneBands parsed = prepared();
        saves("parse", parsed, parsed::parse);
    }

    private static void whatDoesNotSave() {
        RuneBands stone = prepared();
        Check.thrown(() -> stone.setSize(1, 2));
        Check.thrown(() -> stone.setCell(99, 'a'));
        Check.thrown(() -> stone.setCell(0, '!'));
        Check.thrown(stone::addWord);
        Check.thrown(() -> stone.removeWord(1));
        stone.append('!');
        stone.parse();
        for (int what = 0; what <= 4; what++) {
            stone.cell(0, what);
            stone.band(0, what);
            stone.value(what);
        }
        stone.word(0, 0);
        stone.cellOf(0, 0);
        stone.read(0, 0);
        stone.wordsOf(0);
        stone.alike(0);
        stone.choices(5);
        stone.nodes(5);
        stone.chosen(0);
        stone.fewest();
        stone.repair();
        stone.told();
        stone.digest();
        stone.clearText();
        Check.same("only the one from before", stone.undo(), 0);
        Check.same("the word is gone", stone.value(9), 0);
    }

    private static void fourStates() {
        RuneBands stone = new RuneBands();
        for (int cell = 0; cell < 11; cell++) {
            stone.setCell(cell, 'a' + cell);
        }
        int[] runesLeft = {10, 9, 8, 7};
        for (int index = 0; index < runesLeft.length; index++) {
            Check.same("states that remain", stone.undo(), 3 - index);
            Check.same("runes", stone.value(2), runesLeft[index]);
        }
        Check.refused("the older ones are dropped", stone, STATE, stone::undo);
        Check.sameText("the oldest that was kept", Stones.cells(stone), "abcd|efg.|....|....");
    }

    private static void wholeState() {
        RuneBands stone = Stones.of("a/#|B:.", "ab", "c");
        stone.clearText();
        long before = stone.digest();
        stone.setSize(7, 7);
        stone.removeWord(0);
        stone.undo();
        Check.sameText("the list is restored", Stones.words(stone), "ab c");
        stone.undo();
        Check.sameText("the cells are restored", Stones.cells(stone), "a/#|B:.");
        Check.same("gates", stone.value(6), 10);
        Check.sameText("a band", Stones.path(stone, 9), "3 4 5");
        Check.sameText("another band", Stones.path(stone, 8), "0 1");
        // A word undone and added again: the same state, with as many saved ones.
        RuneBands twin = Stones.of("a/#|B:.", "ab", "c");
        twin.clearText();
        twin.undo();
        Stones.addWord(twin, "c");
        twin.clearText();
        Check.same("a state and its like have the same digest", twin.digest(), before);
        RuneBands text = new RuneBands();
        text.setCell(0, 'a');
        Stones.write(text, "abc");
        text.undo();
        Check.same("the text is left alone", text.clearText(), 3);
    }

    private static void undoAndGoOn() {
        RuneBands stone = new RuneBands();
        for (int cell = 0; cell < 6; cell++) {
            stone.setCell(cell, 'a');
        }
        Check.same("back", stone.undo(), 3);
        Check.same("back", stone.undo(), 2);
        stone.setCell(15, 'z');
        stone.setCell(14, 'y');
        stone.setCell(13, 'x');
        int[] runes = {6, 5, 4, 3};
        for (int index = 0; index < runes.length; index++) {
            Check.same("states that remain", stone.undo(), 3 - index);
            Check.same("runes", stone.value(2), runes[index]);
        }
        Check.refused("no more", stone, STATE, stone::undo);
    }

    private static void statesAreApart() {
        RuneBands stone = new RuneBands();
        stone.setCell(0, 'a');
        stone.setCell(0, 'b');
        stone.undo();
        Check.same("a", stone.cell(0, 0), 'a');
        stone.setCell(1, 'c');
        stone.setCell(0, 'd');
        stone.undo();
        stone.undo();
        Check.sameText("as after the first", Stones.cells(stone), "a...|....|....|....");
        stone.undo();
        Check.sameText("as at first", Stones.cells(stone), "....|....|....|....");
    }
}
