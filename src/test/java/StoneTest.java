/** Promises 1 to 5, 8 and 9: the stone and what is told of it. */
public final class StoneTest {
    private static final Class<?> INDEX = IndexOutOfBoundsException.class;
    private static final Class<?> ARGUMENT = IllegalArgumentException.class;

    public static void main(String[] args) {
        newObject();
        sizes();
        sizesRefused();
        cellsSet();
        cellsRefused();
        cornersTurned();
        stoneTurned();
        cellFacts();
        cellFactsOfCrossingBand();
        cellFactsAtBrokenCorner();
        cellsInsideNoBand();
        numbers();
        numbersOfBands();
        Check.end();
    }

    /** Promise 1. */
    private static void newObject() {
        RuneBands stone = new RuneBands();
        Check.sameText("a new stone", Stones.cells(stone), "....|....|....|....");
        Check.same("its words", stone.value(9), 0);
        Check.same("its text", stone.clearText(), 0);
        Check.same("its gates", stone.value(6), 16);
        Check.same("its bands", stone.value(7), 8);
        Check.sameText("its saved states", Check.thrown(stone::undo), "java.lang.IllegalStateException");
        stone.setCell(0, 'a');
        Check.sameText("another one", Stones.cells(new RuneBands()), "....|....|....|....");
    }

    /** Promise 2. */
    private static void sizes() {
        RuneBands stone = Stones.of("ab|c#", "ab");
        Check.same("setSize(2, 7)", stone.setSize(2, 7), 18);
        Check.sameText("2 by 7", Stones.cells(stone), "..|..|..|..|..|..|..");
        Check.same("setSize(7, 2)", stone.setSize(7, 2), 18);
        Check.sameText("7 by 2", Stones.cells(stone), ".......|.......");
        Check.same("setSize(7, 7)", stone.setSize(7, 7), 28);
        Check.same("setSize(2, 2)", stone.setSize(2, 2), 8);
        Check.sameText("the list stays", Stones.words(stone), "ab");
        Check.same("the text stays", stone.clearText(), 2);
        Check.same("back to 7 by 7", stone.undo(), 3);
        Check.same("width", stone.value(0), 7);
        Check.same("height", stone.value(1), 7);
        RuneBands bands = new RuneBands();
        bands.setSize(2, 5);
        Check.same("the bands follow", bands.value(7), 7);
        Check.sameText("the last row's", Stones.path(bands, 13), "8 9");
        RuneBands same = new RuneBands();
        Check.same("the size that it has", same.setSize(4, 4), 16);
        Check.same("is saved too", same.undo(), 0);
    }

    private static void sizesRefused() {
        RuneBands stone = Stones.of("ab|c#", "ab");
        int[] wrong = {1, 8, 0, -1, -2, 9, 100, Integer.MAX_VALUE, Integer.MIN_VALUE};
        for (int side : wrong) {
            Check.refused("setSize(" + side + ", 4)", stone, ARGUMENT, () -> stone.setSize(side, 4));
            Check.refused("setSize(4, " + side + ")", stone, ARGUMENT, () -> stone.setSize(4, side));
            Check.refused("setSize(" + side + ", " + side + ")", stone, ARGUMENT, () -> stone.setSize(side, side));
        }
        Check.sameText("the stone is as it was", Stones.cells(stone), "ab|c#");
    }

    /** Promise 3. */
    private static void cellsSet() {
        RuneBands stone = new RuneBands();
        String bytes = ".abcdefghijklmnopqrstuvwxyzABCDEFGHIJKLMNOPQRSTUVWXYZ/\\#:.";
        for (int index = 1; index < bytes.length(); index++) {
            Check.same("setCell(15, " + bytes.charAt(index) + ")", stone.setCell(15, bytes.charAt(index)),
                bytes.charAt(index - 1));
            Check.same("cell(15, 0)", stone.cell(15, 0), bytes.charAt(index));
        }
        stone.setSize(7, 2);
        Check.same("the last cell of 7 by 2", stone.setCell(13, 'z'), '.');
        Check.same("the first cell of the second row", stone.setCell(7, 'A'), '.');
        Check.sameText("set", Stones.cells(stone), ".......|A.....z");
        Check.same("the byte that it has", stone.setCell(7, 'A'), 'A');
        Check.same("is saved too", stone.undo(), 3);
        Check.sameText("as before", Stones.cells(stone), ".......|A.....z");
        Check.same("undone", stone.undo(), 2);
        Check.sameText("one before", Stones.cells(stone), ".......|......z");
    }

    private static void cellsRefused() {
        RuneBands stone = Stones.of("abc|d#:");
        int[] cells = {-1, 6, 7, 48, 49, 1000, Integer.MAX_VALUE, Integer.MIN_VALUE};
        for (int cell : cells) {
            Check.refused("setCell(" + cell + ", a)", stone, INDEX, () -> stone.setCell(cell, 'a'));
            Check.refused("the cell comes first", stone, INDEX, () -> stone.setCell(cell, 0));
        }
        int fitting = 0;
        for (int value = -300; value <= 300; value++) {
            int given = value;
            boolean fits = value >= 'a' && value <= 'z' || value >= 'A' && value <= 'Z'
                || value == '.' || value == '/' || value == '\\' || value == '#' || value == ':';
            fitting += fits ? 1 : 0;
            if (!fits) {
                Check.sameText("setCell(0, " + value + ")", Check.thrown(() -> new RuneBands().setCell(0, given)),
                    "java.lang.IllegalArgumentException");
            }
        }
        Check.same("bytes that fit", fitting, 57);
        Check.refused("a far value", stone, ARGUMENT, () -> stone.setCell(5, 'a' + 256));
        Check.refused("the least value", stone, ARGUMENT, () -> stone.setCell(5, Integer.MIN_VALUE));
        Check.sameText("the stone is as it was", Stones.cells(stone), "abc|d#:");
    }

    /** Promise 4. */
    private static void cornersTurned() {
        RuneBands stone = Stones.of("/\\#|aB:|..\\");
        Check.same("corners", stone.turnCorners(), 3);
        Check.sameText("turned", Stones.cells(stone), "\\/#|aB:|../");
        Check.same("corners", stone.turnCorners(), 3);
        Check.sameText("turned back", Stones.cells(stone), "/\\#|aB:|..\\");
        Check.same("undone", stone.undo(), 2);
        Check.sameText("turned once", Stones.cells(stone), "\\/#|aB:|../");
        RuneBands plain = new RuneBands();
        Check.same("no corner", plain.turnCorners(), 0);
        Check.same("is saved too", plain.undo(), 0);
        RuneBands bands = Stones.of("a/|b.");
        Check.sameText("before", Stones.path(bands, 2), "1 3");
        bands.turnCorners();
        Check.sameText("the bands follow", Stones.path(bands, 2), "1");
    }

    /** Promise 5. */
    private static void stoneTurned() {
        RuneBands stone = Stones.of("ab/|\\#:");
        Check.same("gates", stone.turnStone(), 10);
        Check.sameText("turned", Stones.cells(stone), "/a|#b|:\\");
        Check.same("width", stone.value(0), 2);
        Check.same("height", stone.value(1), 3);
        stone.turnStone();
        Check.sameText("turned twice", Stones.cells(stone), ":#\\|/ba");
        stone.turnStone();
        Check.sameText("turned three times", Stones.cells(stone), "\\:|b#|a/");
        stone.turnStone();
        Check.sameText("turned around", Stones.cells(stone), "ab/|\\#:");
        Check.same("undone", stone.undo(), 3);
        Check.sameText("three times again", Stones.cells(stone), "\\:|b#|a/");
        RuneBands bands = Stones.of("a#.|...");
        bands.turnStone();
        Check.sameText("the bands follow", Stones.path(bands, 1), "1 3");
        Check.same("and end at the broken corner", bands.band(1, 1), RuneBands.NONE);
        RuneBands large = Stones.of("abcdefg|.......");
        Check.same("gates of 7 by 2", large.turnStone(), 18);
        Check.sameText("the first row is the last column", Stones.cells(large), ".a|.b|.c|.d|.e|.f|.g");
    }

    /** Promise 8. */
    private static void cellFacts() {
        RuneBands stone = Stones.of("az|AZ");
        Check.same("letter of a", stone.cell(0, 4), 0);
        Check.same("letter of z", stone.cell(1, 4), 25);
        Check.same("letter of A", stone.cell(2, 4), 0);
        Check.same("letter of Z", stone.cell(3, 4), 25);
        Check.same("in a row", stone.cell(3, 1), 3);
        Check.same("in a column", stone.cell(3, 2), 1);
        Check.same("how often", stone.cell(3, 3), 2);
        Check.same("byte", stone.cell(3, 0), 'Z');
        RuneBands bare = Stones.of("./|\\#|:.");
        for (int cell = 0; cell < 6; cell++) {
            Check.same("no letter in " + cell, bare.cell(cell, 4), RuneBands.NONE);
        }
        int[] wrong = {-1, 5, 6, Integer.MAX_VALUE, Integer.MIN_VALUE};
        for (int what : wrong) {
            Check.refused("cell(0, " + what + ")", stone, ARGUMENT, () -> stone.cell(0, what));
        }
        int[] cells = {-1, 4, 49, Integer.MAX_VALUE, Integer.MIN_VALUE};
        for (int cell : cells) {
            Check.refused("cell(" + cell + ", 0)", stone, INDEX, () -> stone.cell(cell, 0));
            Check.refused("the cell comes first", stone, INDEX, () -> stone.cell(cell, 9));
        }
    }

    /**
     * Band 7 comes from below: 7 4 1 2 5 4 3, and goes through 4 twice. From gate 10, its other end, it would
     * come into the corners in the other direction.
     */
    private static void cellFactsOfCrossingBand() {
        RuneBands stone = Stones.of("./\\|../|...");
        Check.sameText("band 7", Stones.path(stone, 7), "7 4 1 2 5 4 3");
        int[][] due = {
            // cell, in a row, in a column, how often
            {0, 1, 0, 2}, {1, RuneBands.NONE, 1, 2}, {2, 7, 2, 2}, {3, 7, 0, 2}, {4, 7, 7, 2}, {5, 4, 7, 2},
            {6, 5, 0, 2}, {7, 5, 7, 2}, {8, 5, 4, 2},
        };
        for (int[] row : due) {
            for (int what = 1; what <= 3; what++) {
                Check.same("cell(" + row[0] + ", " + what + ")", stone.cell(row[0], what), row[what]);
            }
        }
    }

    private static void cellFactsAtBrokenCorner() {
        RuneBands stone = Stones.of("...|.#.|...");
        Check.same("in a row: from the right and from the left", stone.cell(4, 1), 4);
        Check.same("in a column: from above and from below", stone.cell(4, 2), 1);
        Check.same("four times", stone.cell(4, 3), 4);
        stone.setCell(1, '#');
        Check.same("from below only", stone.cell(4, 2), 7);
        Check.same("three times", stone.cell(4, 3), 3);
        Check.same("behind a broken corner", stone.cell(1, 3), 3);
    }

    private static void cellsInsideNoBand() {
        RuneBands stone = Stones.of(".#.|#a#|.#.");
        Check.same("in a row", stone.cell(4, 1), RuneBands.NONE);
        Check.same("in a column", stone.cell(4, 2), RuneBands.NONE);
        Check.same("how often", stone.cell(4, 3), 0);
        RuneBands ring = Stones.of("....|./\\.|.\\/.|....");
        Check.same("outside of a ring's corner", ring.cell(5, 3), 1);
        Check.same("in a column", ring.cell(5, 2), 1);
        Check.same("in a row", ring.cell(5, 1), RuneBands.NONE);
    }

    /** Promise 9. */
    private static void numbers() {
        RuneBands stone = Stones.of("aB/\\#|#.:zZ|A...\\", "x", "yy");
        int[] due = {5, 3, 5, 3, 3, 2, 16};
        for (int what = 0; what < due.length; what++) {
            Check.same("value(" + what + ")", stone.value(what), due[what]);
        }
        Check.same("value(9)", stone.value(9), 2);
        RuneBands first = Stones.of("#.|..");
        Check.same("a broken corner in the first cell", first.value(5), 1);
        first.setCell(0, 'A');
        Check.same("a shared rune in the first cell", first.value(3), 1);
        first.setCell(0, '/');
        Check.same("a corner in the first cell", first.value(4), 1);
        first.setCell(3, '\\');
        Check.same("and in the last one", first.value(4), 2);
        int[] wrong = {-1, 10, 11, Integer.MAX_VALUE, Integer.MIN_VALUE};
        for (int what : wrong) {
            Check.refused("value(" + what + ")", stone, ARGUMENT, () -> stone.value(what));
        }
    }

    private static void numbersOfBands() {
        RuneBands crossing = Stones.of("./\\|../|...");
        Check.same("bands", crossing.value(7), 6);
        Check.same("crossing", crossing.value(8), 1);
        crossing.setCell(2, '.');
        Check.same("no longer", crossing.value(8), 0);
        Check.same("nor does the band say so", crossing.band(7, 6), 0);
        crossing.setCell(2, '\\');
        Check.same("crossing again", crossing.value(8), 1);
        RuneBands broken = Stones.of(".#.|#a#|.#.");
        Check.same("each gate has a band of its own", broken.value(7), 12);
        Check.same("crossing", broken.value(8), 0);
        RuneBands plain = new RuneBands();
        Check.same("bands of a plain stone", plain.value(7), 8);
        plain.setCell(5, '#');
        Check.same("a broken corner parts two", plain.value(7), 10);
        RuneBands all = Stones.of("##|##");
        Check.same("all broken", all.value(7), 8);
        RuneBands hit = Stones.of("./\\|#./|...");
        Check.same("crossing, ended by a broken corner", hit.value(8), 1);
        Check.same("from below", hit.band(7, 6), 1);
        Check.same("from the left it is another band", hit.band(10, 6), 0);
    }
}
