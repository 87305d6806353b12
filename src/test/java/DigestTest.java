/** Promise 26: the digest, reckoned here from the other answers, as the document tells it. */
public final class DigestTest {
    public static void main(String[] args) {
        knownDigests();
        fromTheAnswers();
        whatItTells();
        nothingChanged();
        Check.end();
    }

    private static void knownDigests() {
        RuneBands stone = new RuneBands();
        Check.same("a new object", stone.digest(), reckoned(stone, 0, 0));
        Check.same("and the oracle", new Oracle().digest(), stone.digest());
        Check.same("a stop at the ends of readings", Stones.of("a.c:|d/#a").digest(), -5874956497040010540L);
        for (int word = 0; word < 4; word++) {
            Stones.addWord(stone, String.valueOf((char) ('a' + word)));
        }
        Check.same("four words, four states, one byte", stone.digest(), reckoned(stone, 1, 4));
        Stones.write(stone, "zzzzzzzzz");
        for (int state = 3; state >= 0; state--) {
            stone.undo();
            Check.same("states left: " + state, stone.digest(), reckoned(stone, 9, state));
        }
    }

    private static void fromTheAnswers() {
        String[] stones = {"..|..", "a/.b|.\\c:|dE..|./#a", "./\\|.a/|...", ":a::B:|::.:::", "#a|aa", "/a|aa",
            "abcdefg|hijklmn|opqrstu|vwxyzAB|CDEFGHI|JKLMNOP|QRSTUVW", ".#.|#a#|.#.",
            "/\\/\\/\\A|\\AAAAA\\|/AAAAA/|AAAAAA\\|\\AAAAA/|/AAAAA\\|\\/\\A/\\/",
            "\\aa#a./|a#\\.#.a|#..#a/\\|.a.#.a.|..a..#a|a..#.aa|aaaaaaa"};
        for (String text : stones) {
            RuneBands stone = Stones.of(text);
            Check.same("digest of " + text, stone.digest(), reckoned(stone, text.length(), 1));
            Stones.addWord(stone, "a");
            Stones.addWord(stone, "abcdefgh");
            Stones.write(stone, "abc");
            Check.same("with a list", stone.digest(), reckoned(stone, 3, 3));
        }
    }

    private static long reckoned(RuneBands stone, int textLength, int saved) {
        long h = 31L * 3499L + textLength;
        for (int what = 0; what <= 9; what++) {
            h = 31 * h + stone.value(what);
        }
        for (int cell = 0; cell < stone.value(0) * stone.value(1); cell++) {
            for (int what = 0; what <= 4; what++) {
                h = 31 * h + stone.cell(cell, what);
            }
        }
        for (int gate = 0; gate < stone.value(6); gate++) {
            for (int what = 0; what <= 6; what++) {
                h = 31 * h + stone.band(gate, what);
            }
            for (int index = 0; stone.read(gate, index) != RuneBands.NONE; index++) {
                h = 31 * h + stone.read(gate, index);
            }
            h = 31 * h + stone.wordsOf(gate);
        }
        for (int word = 0; word < stone.value(9); word++) {
            for (int index = 0; stone.word(word, index) != RuneBands.NONE; index++) {
                h = 31 * h + stone.word(word, index);
            }
        }
        h = 31 * h + stone.choices(3);
        return 31 * h + saved;
    }

    private static void whatItTells() {
        RuneBands one = Stones.of("ab|..");
        RuneBands other = Stones.of("ab|..");
        Check.same("alike", one.digest(), other.digest());
        Stones.write(other, "xyz++");
        Check.same("only the length of the text counts", one.digest(), other.digest());
        other.append('a');
        Check.holds("a longer text", one.digest() != other.digest());
        Stones.write(other, "ab|..");
        other.setCell(3, '.');
        Check.holds("one more saved state", one.digest() != other.digest());
        other.undo();
        Check.same("alike again", one.digest(), other.digest());
    }

    private static void nothingChanged() {
        RuneBands stone = Stones.of("a/.b|.\\c:|dE..|./#a", "a", "de");
        long first = stone.digest();
        for (int call = 0; call < 20; call++) {
            Check.same("the same again", stone.digest(), first);
        }
        Check.same("the text is as long", stone.clearText(), 2);
        Check.same("the states are as many", stone.undo(), 2);
    }
}
