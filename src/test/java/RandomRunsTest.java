import java.util.Random;

/** Runs of chosen-by-number calls, each answer against the oracle's; the seeds are written down here. */
public final class RandomRunsTest {
    private static final int RUNS = 400;
    private static final int CALLS = 512;
    private static final String CELLS = "................aabbcABC//\\\\##:";

    private final Random dice;
    private final RuneBands stone = new RuneBands();
    private final Oracle oracle = new Oracle();

    private RandomRunsTest(long seed) {
        dice = new Random(seed);
    }

    public static void main(String[] args) {
        for (int run = 0; run < RUNS; run++) {
            new RandomRunsTest(run).play(run);
        }
        Check.end();
    }

    private void play(int run) {
        int calls = 0;
        while (calls < CALLS) {
            int kind = dice.nextInt(34);
            if (kind >= 32) {
                calls += write(run, CALLS - calls);
            } else {
                calls++;
                compare("run " + run + ", call " + calls, kind);
            }
        }
    }

    /** A text in one go: bytes that come one by one, with other calls between them, seldom make a stone. */
    private int write(int run, int most) {
        String made = dice.nextInt(4) == 0 ? madeWord() : madeStone();
        int calls = Math.min(most, made.length() + 2);
        Check.same("run " + run + ": clearText()", stone.clearText(), oracle.clearText());
        for (int index = 0; index < calls - 2; index++) {
            Check.same("run " + run + ": append()", stone.append(made.charAt(index)), oracle.append(made.charAt(index)));
        }
        if (calls > 1) {
            compare("run " + run + ": text " + made, made.matches("[a-c]*") ? 5 : 23);
        }
        return calls;
    }

    private String madeWord() {
        return madeOf("abc", 1 + dice.nextInt(3));
    }

    private String madeStone() {
        int width = 2 + dice.nextInt(6);
        int height = 2 + dice.nextInt(6);
        String bytes = CELLS.substring(dice.nextInt(15));
        StringBuilder text = new StringBuilder(madeOf(bytes, width));
        for (int row = 1; row < height; row++) {
            text.append('|').append(madeOf(bytes, width));
        }
        if (dice.nextInt(6) == 0) {
            text.setCharAt(dice.nextInt(text.length()), "|.a0".charAt(dice.nextInt(4)));
        }
        if (dice.nextInt(6) == 0) {
            text.setLength(dice.nextInt(text.length()));
        }
        return text.toString();
    }

    private String madeOf(String bytes, int length) {
        StringBuilder text = new StringBuilder();
        for (int index = 0; index < length; index++) {
            text.append(bytes.charAt(dice.nextInt(bytes.length())));
        }
        return text.toString();
    }

    /** Mostly within the bounds, now and then just outside or far outside. */
    private int number(int least, int most) {
        switch (dice.nextInt(25)) {
            case 0: return least - 1;
            case 1: return most + 1;
            case 2: return dice.nextInt();
            default: return least + dice.nextInt(Math.max(1, most - least + 1));
        }
    }

    private int cellNumber() {
        return number(0, oracle.value(0) * oracle.value(1) - 1);
    }

    private int gate() {
        return number(0, oracle.value(6) - 1);
    }

    private int cellByte() {
        return dice.nextInt(12) == 0 ? dice.nextInt(140) - 6 : CELLS.charAt(dice.nextInt(CELLS.length()));
    }

    private void compare(String place, int kind) {
        int[] given = arguments(kind);
        String got = answer(() -> ofStone(kind, given[0], given[1]));
        String due = answer(() -> ofOracle(kind, given[0], given[1]));
        Check.sameText(place + ", kind " + kind + " (" + given[0] + ", " + given[1] + ")", got, due);
    }

    private interface Asked {
        Object give();
    }

    private static String answer(Asked asked) {
        try {
            return String.valueOf(asked.give());
        } catch (RuntimeException e) {
            return e.getClass().getName();
        }
    }

    private int[] arguments(int kind) {
        switch (kind) {
            case 0: return new int[] {number(2, 7), number(2, 7)};
            case 1: case 2: case 26: case 27: return new int[] {cellNumber(), cellByte()};
            case 6: return new int[] {number(0, oracle.value(9) - 1), 0};
            case 7: return new int[] {cellNumber(), number(0, 4)};
            case 8: return new int[] {number(0, 9), 0};
            case 9: return new int[] {number(0, oracle.value(9) - 1), number(0, 5)};
            case 10: return new int[] {gate(), number(0, 6)};
            case 11: return new int[] {gate(), number(0, 8)};
            case 12: return new int[] {gate(), number(0, 12)};
            case 13: case 14: return new int[] {gate(), 0};
            case 15: case 16: return new int[] {number(1, 50), 0};
            case 17: return new int[] {number(0, 8), 0};
            case 21: return new int[] {number(0, 127), 0};
            default: return new int[] {0, 0};
        }
    }

    private Object ofStone(int kind, int a, int b) {
        switch (kind) {
            case 0: return stone.setSize(a, b);
            case 1: case 2: case 26: case 27: return stone.setCell(a, b);
            case 3: return stone.turnCorners();
            case 4: return stone.turnStone();
            case 5: return stone.addWord();
            case 6: return stone.removeWord(a);
            case 7: return stone.cell(a, b);
            case 8: return stone.value(a);
            case 9: return stone.word(a, b);
            case 10: return stone.band(a, b);
            case 11: return stone.cellOf(a, b);
            case 12: return stone.read(a, b);
            case 13: return stone.wordsOf(a);
            case 14: return stone.alike(a);
            case 15: return stone.choices(a);
            case 16: return stone.nodes(a);
            case 17: return stone.chosen(a);
            case 18: return stone.fewest();
            case 19: return stone.repair();
            case 20: return stone.told();
            case 21: return stone.append(a);
            case 22: return stone.clearText();
            case 23: return stone.parse();
            case 24: return stone.undo();
            default: return stone.digest();
        }
    }

    private Object ofOracle(int kind, int a, int b) {
        switch (kind) {
            case 0: return oracle.setSize(a, b);
            case 1: case 2: case 26: case 27: return oracle.setCell(a, b);
            case 3: return oracle.turnCorners();
            case 4: return oracle.turnStone();
            case 5: return oracle.addWord();
            case 6: return oracle.removeWord(a);
            case 7: return oracle.cell(a, b);
            case 8: return oracle.value(a);
            case 9: return oracle.word(a, b);
            case 10: return oracle.band(a, b);
            case 11: return oracle.cellOf(a, b);
            case 12: return oracle.read(a, b);
            case 13: return oracle.wordsOf(a);
            case 14: return oracle.alike(a);
            case 15: return oracle.choices(a);
            case 16: return oracle.nodes(a);
            case 17: return oracle.chosen(a);
            case 18: return oracle.fewest();
            case 19: return oracle.repair();
            case 20: return oracle.told();
            case 21: return oracle.append(a);
            case 22: return oracle.clearText();
            case 23: return oracle.parse();
            case 24: return oracle.undo();
            default: return oracle.digest();
        }
    }
}
