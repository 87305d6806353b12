import java.util.function.Supplier;

/** Promise 26: the digest, reckoned here from the other answers, as the document tells it. */
public final class DigestTest {
    public static void main(String[] args) {
        knownDigests();
        fromTheAnswers();
        whatItTells();
        nothingChanged();
        Check.end();
    }

    private static void knownDigests() {
        Check.same("a new object", new RuneBands().digest(), reckoned(RuneBands::new, 0, 0));
        Check.same("and the oracle", new Oracle().digest(), new RuneBands().digest());
        Check.same("a stop at the ends of readings", Stones.of("a.c:|d/#a").digest(), -5874956497040010540L);
        Check.same("four words, four states, one byte", fourWords().digest(), reckoned(DigestTest::fourWords, 1, 4));
        for (int left = 3; left >= 0; left--) {
            int states = left;
            Check.same("states left: " + left, undone(left).digest(), reckoned(() -> undone(states), 9, left));
        }
    }

    private static RuneBands fourWords() {
        RuneBands stone = new RuneBands();
        for (int word = 0; word < 4; word++) {
            Stones.addWord(stone, String.valueOf((char) ('a' + word)));
        }
        return stone;
    }

    private static RuneBands undone(int statesLeft) {
        RuneBands stone = fourWords();
        Stones.write(stone, "zzzzzzzzz");
        for (int state = 4; state > statesLeft; state--) {
            stone.undo();
        }
        return stone;
    }

    private static void fromTheAnswers() {
        String[] stones = {"..|..", "a/.b|.\\c:|dE..|./#a", "./\\|.a/|...", ":a::B:|::.:::", "#a|aa", "/a|aa",
            "abcdefg|hijklmn|opqrstu|vwxyzAB|CDEFGHI|JKLMNOP|QRSTUVW", ".#.|#a#|.#.",
            "/\\/\\/\\A|\\AAAAA\\|/AAAAA/|AAAAAA\\|\\AAAAA/|/AAAAA\\|\\/\\A/\\/",
            "\\aa#a./|a#\\.#.a|#..#a/\\|.a.#.a.|..a..#a|a..#.aa|aaaaaaa"};
        for (String text : stones) {
            Check.same("digest of " + text, Stones.of(text).digest(), reckoned(() -> Stones.of(text), text.length(), 1));
            Check.same("with a list", withList(text).digest(), reckoned(() -> withList(text), 8, 3));
        }
    }

    private static RuneBands withList(String text) {
        return Stones.of(text, "a", "abcdefgh");
    }

    /** Each cell and each gate is asked of a new object of the same kind: an object answers 512 calls, no more. */
    private static long reckoned(Supplier<RuneBands> made, int textLength, int saved) {
        RuneBands stone = made.get();
        long h = 31L * 3499L + textLength;
        for (int what = 0; what <= 9; what++) {
            h = 31 * h + stone.value(what);
        }
        int cells = stone.value(0) * stone.value(1);
        for (int cell = 0; cell < cells; cell++) {
            h = withCell(h, made.get(), cell);
        }
        int gates = stone.value(6);
        for (int gate = 0; gate < gates; gate++) {
            h = withGate(h, made.get(), gate);
        }
        for (int word = 0; word < stone.value(9); word++) {
            for (int index = 0; stone.word(word, index) != RuneBands.NONE; index++) {
                h = 31 * h + stone.word(word, index);
            }
        }
        h = 31 * h + stone.choices(3);
        return 31 * h + saved;
    }

    private static long withCell(long start, RuneBands stone, int cell) {
        long h = start;
        for (int what = 0; what <= 4; what++) {
            h = 31 * h + stone.cell(cell, what);
        }
        return h;
    }

    private static long withGate(long start, RuneBands stone, int gate) {
        long h = start;
        for (int what = 0; what <= 6; what++) {
            h = 31 * h + stone.band(gate, what);
        }
        String reading = Stones.reading(stone, gate);
        for (int index = 0; index < reading.length(); index++) {
            h = 31 * h + reading.charAt(index);
        }
        return 31 * h + stone.wordsOf(gate);
    }

    private static void whatItTells() {
        RuneBands one = Stones.of("ab|..");
        RuneBands other = Stones.of("ab|..");
        Check.same("alike", one.digest(), other.digest());
        Stones.write(other, "xyz++");
        Check.same("only the length of the text counts", one.digest(), other.digest());
        other.append('a');
        Check.holds("a longer text", one.digest() != other.digest());
        Stones.write(other, "ab|..");
        other.setCell(3, '.');
        Check.holds("one more saved state", one.digest() != other.digest());
        other.undo();
        Check.same("alike again", one.digest(), other.digest());
    }

    private static void nothingChanged() {
        RuneBands stone = Stones.of("a/.b|.\\c:|dE..|./#a", "a", "de");
        long first = stone.digest();
        for (int call = 0; call < 20; call++) {
            Check.same("the same again", stone.digest(), first);
        }
        Check.same("the text is as long", stone.clearText(), 2);
        Check.same("the states are as many", stone.undo(), 2);
    }
}
