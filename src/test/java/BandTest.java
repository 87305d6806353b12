/** Promises 11 to 15: bands and their readings. */
public final class BandTest {
    private static final Class<?> INDEX = IndexOutOfBoundsException.class;
    private static final Class<?> ARGUMENT = IllegalArgumentException.class;
    private static final int[] NO_GATES = {-1, 10, 28, 100, Integer.MAX_VALUE, Integer.MIN_VALUE};

    public static void main(String[] args) {
        straightBands();
        turns();
        crossingBand();
        brokenBands();
        longBand();
        bandsRefused();
        cells();
        readings();
        gaps();
        wordsCounted();
        wordsOfBrokenBands();
        bothDirections();
        Check.end();
    }

    /** Facts 0 to 6 of a band, with spaces between them. */
    private static String facts(RuneBands stone, int gate) {
        StringBuilder text = new StringBuilder();
        for (int what = 0; what <= 6; what++) {
            text.append(what == 0 ? "" : " ").append(stone.band(gate, what));
        }
        return text.toString();
    }

    /** Promise 11: number, end, last cell, length, turns, runes, crosses itself. */
    private static void straightBands() {
        RuneBands stone = Stones.of("aB.|.c:");
        String[] due = {
            "0 5 3 2 0 1 0", "1 6 4 2 0 2 0", "2 7 5 2 0 0 0", "3 8 0 3 0 2 0", "4 9 3 3 0 1 0",
            "0 0 0 2 0 1 0", "1 1 1 2 0 2 0", "2 2 2 2 0 0 0", "3 3 2 3 0 2 0", "4 4 5 3 0 1 0",
        };
        for (int gate = 0; gate < due.length; gate++) {
            Check.sameText("gate " + gate, facts(stone, gate), due[gate]);
        }
    }

    /** Each corner from each of its sides, alone in the middle of 3 by 3: gate behind gate. */
    private static void turns() {
        RuneBands rising = Stones.of("...|./.|...");
        RuneBands falling = Stones.of("...|.\\.|...");
        int[] fromMiddle = {1, 4, 7, 10};
        int[] risingEnds = {10, 7, 4, 1};
        int[] fallingEnds = {4, 1, 10, 7};
        for (int index = 0; index < fromMiddle.length; index++) {
            int gate = fromMiddle[index];
            Check.same("/ from " + gate, rising.band(gate, 1), risingEnds[index]);
            Check.same("\\ from " + gate, falling.band(gate, 1), fallingEnds[index]);
            Check.same("turns", rising.band(gate, 4), 1);
            Check.same("length", falling.band(gate, 3), 3);
        }
        RuneBands zigzag = Stones.of("\\\\|.\\|./");
        Check.sameText("0 1 3 5: right, down, right along the corners", Stones.path(zigzag, 0), "0 1 3");
        Check.sameText("facts", facts(zigzag, 0), "0 3 3 3 3 0 0");
    }

    private static void crossingBand() {
        RuneBands stone = Stones.of("./\\|.a/|...");
        Check.sameText("from below", facts(stone, 7), "7 10 3 7 3 2 1");
        Check.sameText("from the left", facts(stone, 10), "7 7 7 7 3 2 1");
        Check.sameText("its path back", Stones.path(stone, 10), "3 4 5 2 1 4 7");
        Check.sameText("another one", facts(stone, 1), "1 9 0 2 1 0 0");
        // Into the corner 4 from the left and, later, from the right: a corner is entered twice like any cell.
        RuneBands corner = Stones.of("./\\|.//|...");
        Check.sameText("both sides of a corner", Stones.path(corner, 10), "3 4 1 2 5 4 7");
        Check.sameText("facts", facts(corner, 10), "7 7 7 7 5 0 1");
    }

    private static void brokenBands() {
        RuneBands stone = Stones.of("a#b.|...c|#.\\.");
        Check.sameText("down to the broken corner", facts(stone, 1), "1 -1 1 1 0 0 0");
        Check.sameText("from the left", facts(stone, 11), "11 -1 1 2 0 1 0");
        Check.sameText("from the right", facts(stone, 4), "4 -1 1 3 0 1 0");
        Check.sameText("from below", facts(stone, 8), "8 -1 1 3 0 0 0");
        Check.sameText("the broken corner is the first cell", facts(stone, 13), "13 -1 8 1 0 0 0");
        Check.sameText("its path", Stones.path(stone, 4), "3 2 1");
        Check.sameText("by a corner", facts(stone, 2), "2 6 11 4 1 1 0");
    }

    /** A long way to and fro between corners at the border, through nearly all cells twice. */
    private static void longBand() {
        RuneBands stone = Stones.of("/\\/\\/\\A|\\AAAAA\\|/AAAAA/|AAAAAA\\|\\AAAAA/|/AAAAA\\|\\/\\A/\\/");
        Check.sameText("facts", facts(stone, 17), "17 24 21 75 21 54 1");
        Check.sameText("facts from the other end", facts(stone, 24), "17 17 45 75 21 54 1");
        Check.same("bytes", Stones.reading(stone, 17).length(), 3 * 54);
        Check.holds("reads alike", stone.alike(17));
        Check.same("words without a list", stone.wordsOf(24), -1);
        Check.same("the last cell", stone.cellOf(17, 74), 21);
        Check.refused("one more", stone, INDEX, () -> stone.cellOf(17, 75));
    }

    private static void bandsRefused() {
        RuneBands stone = Stones.of("aB.|.c:");
        for (int gate : NO_GATES) {
            Check.refused("band(" + gate + ", 0)", stone, INDEX, () -> stone.band(gate, 0));
            Check.refused("the gate comes first", stone, INDEX, () -> stone.band(gate, 7));
            Check.refused("cellOf(" + gate + ", 0)", stone, INDEX, () -> stone.cellOf(gate, 0));
            Check.refused("read(" + gate + ", 0)", stone, INDEX, () -> stone.read(gate, 0));
            Check.refused("wordsOf(" + gate + ")", stone, INDEX, () -> stone.wordsOf(gate));
            Check.refused("alike(" + gate + ")", stone, INDEX, () -> stone.alike(gate));
        }
        int[] wrong = {-1, 7, 8, Integer.MAX_VALUE, Integer.MIN_VALUE};
        for (int what : wrong) {
            Check.refused("band(9, " + what + ")", stone, ARGUMENT, () -> stone.band(9, what));
        }
    }

    /** Promise 12. */
    private static void cells() {
        RuneBands stone = Stones.of("./#|a./");
        Check.sameText("right of the second row", Stones.path(stone, 4), "5");
        Check.sameText("left of the second row: up into the broken corner", Stones.path(stone, 9), "3 4 5 2");
        Check.sameText("above the second column", Stones.path(stone, 1), "1 0");
        Check.sameText("above the third column", Stones.path(stone, 2), "2");
        int[] wrong = {-1, 4, 5, 98, Integer.MAX_VALUE, Integer.MIN_VALUE};
        for (int index : wrong) {
            Check.refused("cellOf(9, " + index + ")", stone, INDEX, () -> stone.cellOf(9, index));
        }
        Check.refused("cellOf(2, 1)", stone, INDEX, () -> stone.cellOf(2, 1));
    }

    /** Promise 13. */
    private static void readings() {
        RuneBands stone = Stones.of("aBc|.d:|/e#");
        Check.sameText("from the left", Stones.reading(stone, 9), "ab bc");
        Check.sameText("from the right", Stones.reading(stone, 3), "cb ba");
        Check.sameText("from above", Stones.reading(stone, 1), "b bde");
        Check.sameText("into the broken corner", Stones.reading(stone, 2), "c");
        Check.sameText("no rune", Stones.reading(stone, 5), "");
        Check.sameText("round a corner", Stones.reading(stone, 11), "a");
        Check.same("the first byte behind", stone.read(9, 5), RuneBands.NONE);
        Check.same("far behind", stone.read(9, Integer.MAX_VALUE), RuneBands.NONE);
        int[] wrong = {-1, -2, Integer.MIN_VALUE};
        for (int index : wrong) {
            Check.refused("read(9, " + index + ")", stone, INDEX, () -> stone.read(9, index));
        }
        Check.sameText("a rune that is entered twice", Stones.reading(Stones.of("./\\|.a/|..."), 10), "aa");
    }

    /** One space between each two words, however many stops stand there; none at the beginning and at the end. */
    private static void gaps() {
        RuneBands stone = Stones.of(":a::B:|::.:::");
        Check.sameText("from the left", Stones.reading(stone, 14), "a b b");
        Check.sameText("from the right", Stones.reading(stone, 6), "b b a");
        Check.sameText("gaps alone", Stones.reading(stone, 15), "");
        Check.same("no byte", stone.read(15, 0), RuneBands.NONE);
        Check.same("no word", stone.wordsOf(15), -1);
        Check.sameText("a stop behind the word", Stones.reading(stone, 1), "a");
        Check.sameText("a stop before the word", Stones.reading(stone, 9), "a");
        Check.same("the first byte behind", stone.read(14, 5), RuneBands.NONE);
        RuneBands turned = Stones.of("ab:.\\|..d:/|c:.:#");
        Check.sameText("stops, a corner and empty cells between words", Stones.reading(turned, 13), "ab d");
        Check.sameText("two stops on both sides of corners", Stones.reading(turned, 14), "d ba");
        Check.sameText("a stop before the broken corner", Stones.reading(turned, 15), "c");
        RuneBands again = Stones.of(":a|b.");
        Check.sameText("a stop at the end of one reading", Stones.reading(again, 2), "a");
        Check.sameText("leaves no gap in the next one", Stones.reading(again, 7), "b");
        RuneBands shared = Stones.of(":A:|A.B|...");
        Check.sameText("a shared rune between stops", Stones.reading(shared, 9), "a a");
        Check.sameText("shared runes beside each other", Stones.reading(shared, 10), "a ab b");
    }

    /** Promise 14. */
    private static void wordsCounted() {
        RuneBands stone = Stones.of("ab:ab|abAab|:c:..|aaaaa", "ab", "aba");
        Check.same("twice the same word", stone.wordsOf(14), 2);
        Check.same("from the right: ba ba", stone.wordsOf(5), -1);
        Check.same("aba aab: one of them", stone.wordsOf(15), -2);
        Check.same("c alone, among gaps", stone.wordsOf(16), -1);
        Stones.addWord(stone, "c");
        Check.same("now good", stone.wordsOf(16), 1);
        Stones.addWord(stone, "aab");
        Check.same("now good", stone.wordsOf(15), 2);
        Stones.addWord(stone, "aaaa");
        Check.same("a part of a word is no word", stone.wordsOf(17), -1);
        Stones.addWord(stone, "aaaaa");
        Check.same("a word", stone.wordsOf(17), 1);
        stone.removeWord(0);
        Check.same("no longer", stone.wordsOf(14), -1);
        RuneBands shared = Stones.of("AAA|...", "a", "aa");
        Check.same("a aa aa a", shared.wordsOf(8), 4);
        RuneBands partly = Stones.of("a:b:a|.....", "a");
        Check.same("a b a", partly.wordsOf(12), -3);
        RuneBands empty = Stones.of("...|:.:", "a");
        Check.same("no word is not good", empty.wordsOf(0), -1);
        Check.same("nor are gaps", empty.wordsOf(4), -1);
        RuneBands twelve = Stones.of("aaaaaa\\|.......|aaaaaa/", "aaaaaaaa");
        Check.same("twelve letters in a row", twelve.wordsOf(17), -1);
    }

    private static void wordsOfBrokenBands() {
        RuneBands stone = Stones.of("ab#|...", "ab", "ba");
        Check.same("up to the broken corner", stone.wordsOf(8), 1);
        Check.same("nothing before it", stone.wordsOf(3), -1);
    }

    /** Promise 15. */
    private static void bothDirections() {
        RuneBands stone = Stones.of("aba|ab.|A:a|a#a|:.:");
        Check.holds("aba", stone.alike(11));
        Check.holds("aba from the right", stone.alike(3));
        Check.holds("ab is not", !stone.alike(12));
        Check.holds("a a a", stone.alike(13));
        Check.same("which has two gaps", stone.read(13, 3), ' ');
        Check.holds("a broken corner", !stone.alike(14));
        Check.holds("the other side of it", !stone.alike(6));
        Check.holds("gaps alone", stone.alike(15));
        RuneBands shared = Stones.of("AbA|A.a|aBa|...");
        Check.holds("a aba a", shared.alike(10));
        Check.holds("a aa is not", !shared.alike(11));
        Check.holds("ab ba", shared.alike(12));
        Check.holds("nothing", shared.alike(13));
        RuneBands letters = Stones.of("aA|..");
        Check.holds("aa a is not", !letters.alike(6));
        RuneBands edge = Stones.of(":a|a.");
        Check.holds("a stop at one end only", edge.alike(6));
        RuneBands stops = Stones.of("a::a:a|.:ab::");
        Check.holds("more stops on one side", stops.alike(14));
        Check.holds("ab is not, stops or not", !stops.alike(15));
    }
}
