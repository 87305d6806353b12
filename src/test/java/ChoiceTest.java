/** Promises 16 to 21: choices, the search's nodes, repairs and the share of runes that are told. */
public final class ChoiceTest {
    private static final Class<?> INDEX = IndexOutOfBoundsException.class;
    private static final Class<?> ARGUMENT = IllegalArgumentException.class;
    private static final int UNBOUNDED = 1_000_000;

    /** Stones at the limit of nodes and beyond it; the oracle's search without a limit says how far. */
    private static final String TWO_THOUSAND = "\\aa#a./|a#\\.#.a|#..#a/\\|.a.#.a.|..a..#a|a..#.aa|aaaaaaa";
    private static final String FIFTIETH_AT_THE_END = "a#a/\\a.|.a#..#a|...a#\\#|./..\\a.|..a.#.a|.a\\.\\a.|a..aaaa";
    private static final String FIFTIETH_BEHIND = "a/aa/a/|\\#\\###a|a/./\\.#|..a..#a|\\/..#a.|a/.aa..|aaa..aa";
    private static final String FAR_TOO_MANY = "a\\a\\a#a|\\a#/.a.|a\\.#..\\|##\\.#.a|.a#.#.\\|./#a\\.a|a\\aaa\\.";

    public static void main(String[] args) {
        noRunes();
        oneRune();
        noChoice();
        smallStone();
        scatteredRunes();
        crossingBandsAreLeftOut();
        brokenBandsAreChosen();
        bandsOfTwoSidesMeetOneRune();
        mostIsKept();
        mostRefused();
        chosenRefused();
        nodeLimit();
        repairs();
        repairChangesNothing();
        runesTold();
        Check.end();
    }

    private static void same(String name, RuneBands stone, int choices, int nodes, int fewest, String chosen) {
        Check.same(name + ": choices(50)", stone.choices(50), choices);
        Check.same(name + ": nodes(50)", stone.nodes(50), nodes);
        Check.same(name + ": fewest()", stone.fewest(), fewest);
        Check.sameText(name + ": chosen()", Stones.chosen(stone), chosen);
    }

    private static void noRunes() {
        same("empty", new RuneBands(), 1, 1, 0, "");
        same("corners and stops", Stones.of("/\\#|:.:"), 1, 1, 0, "");
        Check.same("choices(1)", new RuneBands().choices(1), 1);
        Check.same("nodes(1)", new RuneBands().nodes(1), 1);
        Check.same("chosen(0)", new RuneBands().chosen(0), RuneBands.NONE);
        Check.sameDouble("told()", new RuneBands().told(), 1.0);
    }

    private static void oneRune() {
        RuneBands stone = Stones.of("..|.a");
        same("one rune", stone, 2, 3, 1, "1");
        Check.same("nodes(1)", stone.nodes(1), 2);
        Check.same("chosen(1)", stone.chosen(1), RuneBands.NONE);
        Check.same("chosen(far)", stone.chosen(Integer.MAX_VALUE), RuneBands.NONE);
        stone.setCell(3, 'Z');
        same("one shared rune", stone, 2, 3, 1, "1");
    }

    /** Bands 1 (cells 1, 3), 2 (1, 0, 2) and 3 (3, 2): each two of them share a rune, none has all. */
    private static void noChoice() {
        RuneBands stone = Stones.of("/a|aa");
        same("none", stone, 0, 3, RuneBands.NONE, "");
        Check.same("chosen(0)", stone.chosen(0), RuneBands.NONE);
        Check.same("repair()", stone.repair(), RuneBands.NONE);
        same("no band at all", Stones.of(".#.|#a#|.#."), 0, 1, RuneBands.NONE, "");
    }

    /** Rune 0 by band 0 or 3, rune 1 by band 1 (3 has rune 0), rune 5 by band 2 or 4; 3 has both of its row. */
    private static void smallStone() {
        RuneBands stone = Stones.of("ab.|..c");
        same("3 by 2", stone, 4, 8, 2, "0 1 2");
        Check.same("nodes(1)", stone.nodes(1), 4);
        Check.same("nodes(2)", stone.nodes(2), 5);
        Check.same("nodes(3)", stone.nodes(3), 7);
        Check.same("choices(3)", stone.choices(3), 3);
    }

    /** The order in which bands are chosen is that of the runes, not that of the bands. */
    private static void scatteredRunes() {
        RuneBands stone = Stones.of("a...b..|.c...a.|..b...c|...a...|b...c..|.a...b.|..c....");
        same("7 by 7", stone, 16, 62, 7, "0 4 1 5 2 6 3");
    }

    private static void crossingBandsAreLeftOut() {
        RuneBands stone = Stones.of("./\\|.a/|...");
        same("only by a band that crosses itself", stone, 0, 1, RuneBands.NONE, "");
        stone.setCell(4, '.');
        stone.setCell(3, 'a');
        same("by another one, too", stone, 1, 2, 1, "0");
    }

    private static void brokenBandsAreChosen() {
        RuneBands stone = Stones.of("a#b|...");
        same("four bands end there", stone, 4, 7, 2, "0 2");
        RuneBands beside = Stones.of("ab#a|....");
        same("the band of the right side is another one", beside, 4, 8, 2, "0 1 3");
    }

    private static void bandsOfTwoSidesMeetOneRune() {
        RuneBands stone = Stones.of("aa|aa");
        same("columns or rows", stone, 2, 5, 2, "0 1");
        stone.setCell(0, '\\');
        same("round the corner", stone, 2, 6, 2, "0 3");
    }

    private static void mostIsKept() {
        String text = "a......|.a.....|..a....|...a...|....a..|.....a.|......a";
        RuneBands stone = Stones.of(text);
        for (int most = 1; most <= 50; most++) {
            Check.same("choices(" + most + ")", stone.choices(most), most);
            Check.same("nodes(" + most + ")", stone.nodes(most),
                oracleOf(text).hunt(most, UNBOUNDED).looked);
        }
        Check.same("fewest()", stone.fewest(), 7);
    }

    private static void mostRefused() {
        RuneBands stone = Stones.of("ab.|..c");
        int[] wrong = {0, 51, -1, 52, 100, Integer.MAX_VALUE, Integer.MIN_VALUE};
        for (int most : wrong) {
            Check.refused("choices(" + most + ")", stone, ARGUMENT, () -> stone.choices(most));
            Check.refused("nodes(" + most + ")", stone, ARGUMENT, () -> stone.nodes(most));
        }
    }

    private static void chosenRefused() {
        RuneBands stone = Stones.of("ab.|..c");
        int[] wrong = {-1, -2, Integer.MIN_VALUE};
        for (int index : wrong) {
            Check.refused("chosen(" + index + ")", stone, INDEX, () -> stone.chosen(index));
        }
        RuneBands changed = Stones.of("a.|..");
        Check.same("chosen(0), asked first", changed.chosen(0), 0);
        changed.turnStone();
        Check.same("chosen(0) of the turned stone", changed.chosen(0), 1);
        RuneBands none = Stones.of("/a|aa");
        Check.refused("chosen(-1) without a choice", none, INDEX, () -> none.chosen(-1));
    }

    private static Oracle oracleOf(String text) {
        Oracle oracle = new Oracle();
        for (int index = 0; index < text.length(); index++) {
            oracle.append(text.charAt(index));
        }
        oracle.parse();
        return oracle;
    }

    private static void nodeLimit() {
        Check.same("2000 in all", oracleOf(TWO_THOUSAND).hunt(50, UNBOUNDED).looked, 2000);
        RuneBands stone = Stones.of(TWO_THOUSAND);
        Check.same("are told as 2000", stone.nodes(50), 2000);
        Check.same("with all choices", stone.choices(50), 32);
        Check.same("the 50th choice is node 2000", oracleOf(FIFTIETH_AT_THE_END).hunt(50, UNBOUNDED).looked, 2000);
        stone = Stones.of(FIFTIETH_AT_THE_END);
        Check.same("told as 2000", stone.nodes(50), 2000);
        Check.same("and found", stone.choices(50), 50);
        Check.same("the 50th choice is node 2001", oracleOf(FIFTIETH_BEHIND).hunt(50, UNBOUNDED).looked, 2001);
        stone = Stones.of(FIFTIETH_BEHIND);
        Check.same("too many", stone.nodes(50), -2000);
        Check.same("one is missed", stone.choices(50), 49);
        Check.same("the 49th is in time", stone.nodes(49), oracleOf(FIFTIETH_BEHIND).nodes(49));
        Check.same("fewest of those", stone.fewest(), oracleOf(FIFTIETH_BEHIND).fewest());
        Check.holds("far too many", oracleOf(FAR_TOO_MANY).hunt(50, UNBOUNDED).looked > 6000);
        stone = Stones.of(FAR_TOO_MANY);
        Check.same("none found", stone.choices(50), 0);
        Check.same("too many for one", stone.nodes(1), -2000);
        Check.same("fewest", stone.fewest(), RuneBands.NONE);
        Check.same("chosen", stone.chosen(0), RuneBands.NONE);
        Check.same("repair", stone.repair(), oracleOf(FAR_TOO_MANY).repair());
    }

    /** Promise 20. */
    private static void repairs() {
        Check.same("no broken corner", Stones.of("ab|..").repair(), RuneBands.NONE);
        Check.same("both would do: / is first", Stones.of("a#|..").repair(), 2);
        Check.same("only \\ would do", Stones.of("#a|aa").repair(), 1);
        Check.same("only \\ would do, behind other cells", Stones.of("..|..|#a|aa").repair(), 9);
        Check.same("a choice stands already", Stones.of("ab#|#.c").repair(), 4);
        Check.same("/ makes a way to a rune", Stones.of("#/\\|a./|#..").repair(), 0);
        Check.same("the first one doesn't help", Stones.of("a#a|aaa|#..").repair(), 12);
        Check.same("neither would do", Stones.of("/a#|aa.").repair(), RuneBands.NONE);
        Check.same("an empty stone", new RuneBands().repair(), RuneBands.NONE);
        Check.same("the last cell", Stones.of("..|.#").repair(), 6);
        Check.same("a stone without runes", Stones.of("##|##").repair(), 0);
    }

    private static void repairChangesNothing() {
        String[] stones = {"#a|aa", "/a#|aa.", "a#a|aaa|#..", "ab#|#.c"};
        for (String text : stones) {
            RuneBands stone = Stones.of(text);
            long before = stone.digest();
            stone.repair();
            Check.same("digest of " + text, stone.digest(), before);
            Check.sameText("cells of " + text, Stones.cells(stone), text);
        }
    }

    /** Promise 21. */
    private static void runesTold() {
        Check.sameDouble("no list", Stones.of("ab|c.").told(), 0.0);
        Check.sameDouble("one of three", Stones.of("ab|c.", "c").told(), 1.0 / 3.0);
        Check.sameDouble("two of three", Stones.of("ab|c.", "ab").told(), 2.0 / 3.0);
        Check.sameDouble("from the other gate", Stones.of("ab|c.", "ba").told(), 2.0 / 3.0);
        Check.sameDouble("all three", Stones.of("ab|c.", "ac", "ab").told(), 1.0);
        Check.sameDouble("a reading that is not good", Stones.of("a:b|..:", "a").told(), 0.0 + 1.0 / 2.0);
        Check.sameDouble("shared runes count once", Stones.of("aA|..", "a", "aa").told(), 1.0);
        Check.sameDouble("a broken corner", Stones.of("ab#c|....|....", "ab").told(), 2.0 / 3.0);
        Check.sameDouble("a band that crosses itself", Stones.of("./\\|.a/|...", "aa").told(), 1.0);
        Check.sameDouble("no band", Stones.of(".#.|#a#|.#.", "a").told(), 0.0);
        Check.sameDouble("stops alone", Stones.of(":.|.:", "a").told(), 1.0);
    }
}
