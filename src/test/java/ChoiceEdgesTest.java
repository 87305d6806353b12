import java.util.List;

/**
 * Promises 16 to 21, and "Choices" of the terms: each case at a boundary is a method of its own. How many nodes a search
 * without a limit would look at is told by the oracle, so that the stones below are known to stand where they should.
 */
public final class ChoiceEdgesTest {
    private static final int UNBOUNDED = 1_000_000;
    private static final String FULL = "aaaaaaa|aaaaaaa|aaaaaaa|aaaaaaa|aaaaaaa|aaaaaaa|aaaaaaa";
    private static final String DIAGONAL = "a......|.a.....|..a....|...a...|....a..|.....a.|......a";

    /** The search for 50 looks at 2000 nodes in all; at 2001 in all; its 50th choice is node 2000; node 2001. */
    private static final String ALL_2000 = "\\aa#a./|a#\\.#.a|#..#a/\\|.a.#.a.|..a..#a|a..#.aa|aaaaaaa";
    private static final String ALL_2001 = ".a\\aa/a|a##.###|/#..a..|.a/#..a|..a#.a.|a.a#a.a|aa.aaa\\";
    private static final String FIFTIETH_2000 = "a#a/\\a.|.a#..#a|...a#\\#|./..\\a.|..a.#.a|.a\\.\\a.|a..aaaa";
    private static final String FIFTIETH_2001 = "a/aa/a/|\\#\\###a|a/./\\.#|..a..#a|\\/..#a.|a/.aa..|aaa..aa";
    /** The first choice is node 2000; it is node 2001; it is far behind it. */
    private static final String FIRST_2000 = "..a\\a..|.a..#a.|..\\a##a|..a.#./|a.#..\\a|#a..\\a.|a#aaaa#";
    private static final String FIRST_2001 = ".a.#a..|\\..a#a.|....##a|..a.#a.|a.#.a..|#a...\\.|a#aaaa#";
    private static final String FIRST_BEHIND = "..a#a..|.\\.a#a.|.a..\\#a|a...#a.|##a..\\.|a#..a..|.a#aaa#";
    /** The 50th choice has the fewest bands so far; the 51st has. */
    private static final String FEWEST_IS_50TH = "aa.....|#.aa...|\\#..a..|a..#\\..|/.#aa..|..../..|aaa...#";
    private static final String FEWEST_IS_51ST = "...a.a#|.a.a##a|a#..\\.a|a..###a|\\...#a.|\\..a#/\\|aa\\.\\a.";
    /** Fewer bands would do, but only behind the 50th choice; but only behind the 2000th node. */
    private static final String FEWER_BEHIND_50 = ".a.a..|#...a.|a#...a|.a.##a|..\\.a#|./a..a|/.a..a";
    private static final String FEWER_BEHIND_2000 = ".a.#.aa|..\\.a#/|a...#a/|..a/a..|#a\\#..a|a#.a...|a\\aaaa#";
    /**
     * The first broken corner as "/": a choice is found at node 2000; only behind it, but as "\" in time; at node 2001
     * exactly, as "\" too, so that it will not do. (The second will not, either; the third will.)
     */
    private static final String REPAIR_2000 = "..a\\a.#|.a..#a.|..\\a##a|..a.#./|a.#..\\a|#a..\\a.|a#aaaa#";
    private static final String REPAIR_BEHIND = "..a\\a.#|.a..#a.|..\\a##a|..a.#./|a.#.a\\a|#a..\\a.|a#aaaa#";
    private static final String REPAIR_2001 = "a#...a.|.#a\\a#a|.a\\.##/|\\\\...\\a|a.#.a\\.|#a...\\.|a#aaaa#";

    public static void main(String[] args) throws IllegalAccessException {
        Cases.run(ChoiceEdgesTest.class);
    }

    private static Oracle.Hunt unbounded(String text, int most) {
        Oracle oracle = new Oracle();
        for (int index = 0; index < text.length(); index++) {
            oracle.append(text.charAt(index));
        }
        oracle.parse();
        return oracle.hunt(most, UNBOUNDED);
    }

    private static void finds(String text, int choices, int nodes, int fewest, String chosen) {
        RuneBands stone = Stones.of(text);
        Check.same("choices(50) of " + text, stone.choices(50), choices);
        Check.same("nodes(50)", stone.nodes(50), nodes);
        Check.same("fewest()", stone.fewest(), fewest);
        Check.sameText("chosen()", Stones.chosen(stone), chosen);
    }

    // ---- terms: choices

    static void termsStoneWithoutRunesHasTheEmptyChoice() {
        finds("..|..", 1, 1, 0, "");
        finds("/\\#|:.#", 1, 1, 0, "");
    }

    static void termsBandThatCrossesItselfIsInNoChoice() {
        finds("./\\|.a/|...", 0, 1, RuneBands.NONE, "");
    }

    /** Rune 3 is also on band 0, which does not cross itself. */
    static void termsRuneOfABandThatCrossesItselfMayBeReadByAnother() {
        finds("./\\|a./|...", 1, 2, 1, "0");
    }

    /** Band 0 goes down through the rune and crosses itself in cell 9; band 4 goes straight along the first row. */
    static void termsBandThatCrossesItselfBehindTheFirstCellIsInNoChoice() {
        Check.same("band(0, 6)", Stones.of("a...|./\\.|\\./.|....").band(0, 6), 1);
        finds("a...|./\\.|\\./.|....", 1, 2, 1, "4");
    }

    static void termsBandThatCrossesItselfInACornerIsInNoChoice() {
        finds("./\\|.//|.a.", 1, 2, 1, "5");
    }

    /** Bands 1 (cells 1, 3), 2 (1, 0, 2) and 3 (3, 2): each two of them share a rune, none has all. */
    static void termsNoRuneIsEnteredByTwo() {
        finds("/a|aa", 0, 3, RuneBands.NONE, "");
    }

    static void termsSharedRuneIsEnteredByOneBandToo() {
        finds("/A|AA", 0, 3, RuneBands.NONE, "");
        finds("..|.A", 2, 3, 1, "1");
    }

    static void termsFirstAndLastRunesAreToBeEntered() {
        finds("a.|.z", 4, 7, 2, "0 1");
        finds("A.|.Z", 4, 7, 2, "0 1");
    }

    static void termsStopsAreNoRunes() {
        finds("a:|..", 2, 3, 1, "0");
    }

    static void termsRuneThatNoBandEnters() {
        finds(".#.|#a#|.#.", 0, 1, RuneBands.NONE, "");
    }

    /** The rune in the middle is the lowest that no chosen band enters only when rune 0 is read. */
    static void termsRuneThatNoBandEntersBehindAnother() {
        finds("a#.|#a#|.#.", 0, 3, RuneBands.NONE, "");
    }

    static void termsBandsThatEndAtABrokenCornerAreChosen() {
        finds("a#b|...", 4, 7, 2, "0 2");
    }

    static void termsLowestCellIsTakenFirst() {
        finds("..a|a..", 4, 7, 2, "2 0");
    }

    static void termsRuneInTheFirstCell() {
        finds("a.|..", 2, 3, 1, "0");
    }

    static void termsRuneInTheLastCellOfTheLargestStone() {
        finds(".......|.......|.......|.......|.......|.......|......a", 2, 3, 1, "6");
    }

    static void termsEachCellOfTheLargestStoneIsARune() {
        finds(FULL, 2, 15, 7, "0 1 2 3 4 5 6");
    }

    /** Rune 3 is on band 1 in its column and on band 3 in its row. */
    static void termsLowerNumberInAColumnIsChosenFirst() {
        finds("..|.a", 2, 3, 1, "1");
    }

    /** Rune 4 is on band 1 in its column and on band 0, round a corner, in its row. */
    static void termsLowerNumberInARowIsChosenFirst() {
        finds("...|\\a.|...", 2, 3, 1, "0");
    }

    // ---- promise 16: choices

    static void promise16MostOneTooSmall() {
        Refusal.argument(stone -> stone.choices(0));
    }

    static void promise16MostSmallest() {
        Check.same("choices(1)", Stones.of(DIAGONAL).choices(1), 1);
    }

    static void promise16MostLargest() {
        Check.same("choices(50)", Stones.of(DIAGONAL).choices(50), 50);
    }

    static void promise16MostOneTooLarge() {
        Refusal.argument(stone -> stone.choices(51));
    }

    static void promise16MostFarOutOfRange() {
        Refusal.argument(stone -> stone.choices(-1));
        Refusal.argument(stone -> stone.choices(Integer.MIN_VALUE));
        Refusal.argument(stone -> stone.choices(Integer.MAX_VALUE));
    }

    static void promise16NoChoice() {
        Check.same("choices(1)", Stones.of("/a|aa").choices(1), 0);
        Check.same("choices(50)", Stones.of("/a|aa").choices(50), 0);
    }

    static void promise16WithoutRunes() {
        Check.same("choices(1)", Stones.of("..|..").choices(1), 1);
        Check.same("choices(50)", Stones.of("..|..").choices(50), 1);
    }

    static void promise16AsManyAsThereAre() {
        RuneBands stone = Stones.of("ab.|..c");
        Check.same("choices(3)", stone.choices(3), 3);
        Check.same("choices(4)", stone.choices(4), 4);
        Check.same("choices(5)", stone.choices(5), 4);
    }

    static void promise16EndsWithTheLastNode() {
        Check.same("choices(50)", Stones.of(ALL_2000).choices(50), unbounded(ALL_2000, 50).found.size());
    }

    static void promise16FoundAtNode2000() {
        Check.same("choices(1)", Stones.of(FIRST_2000).choices(1), 1);
        Check.same("choices(50)", Stones.of(FIFTIETH_2000).choices(50), 50);
    }

    static void promise16NotFoundBehindNode2000() {
        Check.same("choices(1)", Stones.of(FIRST_BEHIND).choices(1), 0);
        Check.same("choices(50)", Stones.of(FIRST_BEHIND).choices(50), 0);
        Check.same("the 50th", Stones.of(FIFTIETH_2001).choices(50), 49);
    }

    static void promise16NotFoundAtNode2001() {
        Check.same("choices(1)", Stones.of(FIRST_2001).choices(1), 0);
        Check.same("choices(50)", Stones.of(FIRST_2001).choices(50), 0);
    }

    // ---- promise 17: nodes

    static void promise17MostOneTooSmall() {
        Refusal.argument(stone -> stone.nodes(0));
    }

    static void promise17MostSmallest() {
        Check.same("nodes(1)", Stones.of(DIAGONAL).nodes(1), 8);
    }

    static void promise17MostLargest() {
        Check.same("nodes(50)", Stones.of(DIAGONAL).nodes(50), unbounded(DIAGONAL, 50).looked);
    }

    static void promise17MostOneTooLarge() {
        Refusal.argument(stone -> stone.nodes(51));
    }

    static void promise17MostFarOutOfRange() {
        Refusal.argument(stone -> stone.nodes(-1));
        Refusal.argument(stone -> stone.nodes(Integer.MIN_VALUE));
        Refusal.argument(stone -> stone.nodes(Integer.MAX_VALUE));
    }

    static void promise17FirstBeginningIsANode() {
        Check.same("without runes", Stones.of("..|..").nodes(1), 1);
        Check.same("without runes", Stones.of("..|..").nodes(50), 1);
        Check.same("with a rune that no band enters", Stones.of(".#.|#a#|.#.").nodes(50), 1);
    }

    static void promise17EndsWhenSoManyAreFound() {
        RuneBands stone = Stones.of("ab.|..c");
        Check.same("nodes(1)", stone.nodes(1), 4);
        Check.same("nodes(2)", stone.nodes(2), 5);
        Check.same("nodes(3)", stone.nodes(3), 7);
        Check.same("nodes(4)", stone.nodes(4), 8);
        Check.same("nodes(5)", stone.nodes(5), 8);
    }

    static void promise17LooksOnBehindTheLastChoice() {
        Check.same("nodes(2)", Stones.of("aa|aa").nodes(2), 5);
        Check.same("nodes(50)", Stones.of("aa|aa").nodes(50), 5);
        Check.same("a choice, then none", Stones.of("./\\|a./|...").nodes(50), 2);
    }

    static void promise17Exactly2000InAll() {
        Check.same("without a limit", unbounded(ALL_2000, 50).looked, 2000);
        Check.same("nodes(50)", Stones.of(ALL_2000).nodes(50), 2000);
    }

    static void promise17Exactly2001InAll() {
        Check.same("without a limit", unbounded(ALL_2001, 50).looked, 2001);
        Check.same("nodes(50)", Stones.of(ALL_2001).nodes(50), -2000);
        Check.same("choices(50)", Stones.of(ALL_2001).choices(50), unbounded(ALL_2001, 50).found.size());
    }

    static void promise17LastChoiceIsNode2000() {
        Check.same("without a limit", unbounded(FIFTIETH_2000, 50).looked, 2000);
        Check.same("nodes(50)", Stones.of(FIFTIETH_2000).nodes(50), 2000);
        Check.same("without a limit", unbounded(FIRST_2000, 1).looked, 2000);
        Check.same("nodes(1)", Stones.of(FIRST_2000).nodes(1), 2000);
    }

    static void promise17LastChoiceIsNode2001() {
        Check.same("without a limit", unbounded(FIFTIETH_2001, 50).looked, 2001);
        Check.same("nodes(50)", Stones.of(FIFTIETH_2001).nodes(50), -2000);
    }

    static void promise17FirstChoiceIsNode2001() {
        Check.same("without a limit", unbounded(FIRST_2001, 1).looked, 2001);
        Check.same("and found", unbounded(FIRST_2001, 1).found.size(), 1);
        Check.same("nodes(1)", Stones.of(FIRST_2001).nodes(1), -2000);
        Check.same("nodes(50)", Stones.of(FIRST_2001).nodes(50), -2000);
    }

    static void promise17NodeLimitOfAnEarlierSearchIsForgotten() {
        RuneBands stone = Stones.of(FIFTIETH_2001);
        Check.same("nodes(50)", stone.nodes(50), -2000);
        Check.same("nodes(49)", stone.nodes(49), unbounded(FIFTIETH_2001, 49).looked);
        Check.same("nodes(1)", stone.nodes(1), unbounded(FIFTIETH_2001, 1).looked);
    }

    // ---- promise 18: chosen

    static void promise18IndexOneTooSmall() {
        Refusal.index(stone -> stone.chosen(-1));
    }

    static void promise18IndexFarTooSmall() {
        Refusal.index(stone -> stone.chosen(Integer.MIN_VALUE));
    }

    static void promise18IndexOneTooSmallWithoutAChoice() {
        Refusal.index(() -> Stones.of("/a|aa"), stone -> stone.chosen(-1));
    }

    static void promise18FirstAndLastBand() {
        RuneBands stone = Stones.of(DIAGONAL);
        Check.same("chosen(0)", stone.chosen(0), 0);
        Check.same("chosen(6)", stone.chosen(6), 6);
    }

    static void promise18BehindTheLastBand() {
        Check.same("chosen(7)", Stones.of(DIAGONAL).chosen(7), RuneBands.NONE);
        Check.same("chosen(most)", Stones.of(DIAGONAL).chosen(Integer.MAX_VALUE), RuneBands.NONE);
    }

    static void promise18BehindTheLastBandAfterALongerChoice() {
        RuneBands stone = Stones.of(DIAGONAL);
        Check.same("chosen(6)", stone.chosen(6), 6);
        stone.setSize(2, 2);
        stone.setCell(0, 'a');
        Check.same("chosen(0)", stone.chosen(0), 0);
        Check.same("chosen(1)", stone.chosen(1), RuneBands.NONE);
    }

    static void promise18NoChoice() {
        Check.same("chosen(0)", Stones.of("/a|aa").chosen(0), RuneBands.NONE);
    }

    static void promise18NoChoiceAfterAChoice() {
        RuneBands stone = Stones.of("a.|..");
        Check.same("chosen(0)", stone.chosen(0), 0);
        stone.setCell(1, '#');
        stone.setCell(2, '#');
        Check.same("chosen(0)", stone.chosen(0), 0);
        RuneBands closed = Stones.of("...|.a.|...");
        Check.same("chosen(0)", closed.chosen(0), 1);
        closed.setCell(1, '#');
        closed.setCell(3, '#');
        closed.setCell(5, '#');
        closed.setCell(7, '#');
        Check.same("chosen(0)", closed.chosen(0), RuneBands.NONE);
    }

    static void promise18EmptyChoice() {
        Check.same("chosen(0)", Stones.of("..|..").chosen(0), RuneBands.NONE);
    }

    static void promise18FirstOfMoreChoices() {
        RuneBands stone = Stones.of("ab.|..c");
        stone.choices(50);
        Check.sameText("chosen()", Stones.chosen(stone), "0 1 2");
    }

    static void promise18InTheOrderInWhichTheyWereChosen() {
        Check.sameText("chosen()", Stones.chosen(Stones.of("..a|a..")), "2 0");
    }

    static void promise18FoundAtNode2000() {
        RuneBands stone = Stones.of(FIRST_2000);
        StringBuilder due = new StringBuilder();
        unbounded(FIRST_2000, 1).found.get(0).forEach(band -> due.append(due.length() == 0 ? "" : " ").append(band));
        Check.sameText("chosen()", Stones.chosen(stone), due.toString());
    }

    static void promise18NotFoundAtNode2001() {
        Check.same("chosen(0)", Stones.of(FIRST_2001).chosen(0), RuneBands.NONE);
    }

    static void promise18NotFoundBehindNode2000() {
        Check.holds("without a limit", unbounded(FIRST_BEHIND, 1).looked > 2000);
        Check.same("and found", unbounded(FIRST_BEHIND, 1).found.size(), 1);
        Check.same("chosen(0)", Stones.of(FIRST_BEHIND).chosen(0), RuneBands.NONE);
    }

    // ---- promise 19: fewest

    static void promise19NoChoice() {
        Check.same("fewest()", Stones.of("/a|aa").fewest(), RuneBands.NONE);
    }

    static void promise19EmptyChoice() {
        Check.same("fewest()", new RuneBands().fewest(), 0);
    }

    static void promise19OneBand() {
        Check.same("fewest()", Stones.of("aa|..").fewest(), 1);
    }

    static void promise19NotTheFirstChoice() {
        RuneBands stone = Stones.of("/a..a\\/|a//.a/\\");
        Check.same("bands of the first one", Stones.chosen(stone).split(" ").length, 2);
        Check.same("fewest()", stone.fewest(), 1);
    }

    static void promise19NotTheLastChoice() {
        Check.same("fewest()", Stones.of("aa.|...").fewest(), 1);
        Check.same("rows first", Stones.of("a.|a.|a.").fewest(), 1);
    }

    static void promise19The50thIsTheFewest() {
        Check.same("of 49", fewestOf(FEWEST_IS_50TH, 49), 7);
        Check.same("fewest()", Stones.of(FEWEST_IS_50TH).fewest(), 6);
    }

    static void promise19The51stIsNotLookedAt() {
        Check.same("of 51", fewestOf(FEWEST_IS_51ST, 51), 8);
        Check.same("fewest()", Stones.of(FEWEST_IS_51ST).fewest(), 9);
    }

    static void promise19FewerBehindThe50th() {
        Check.same("without a limit", fewestOf(FEWER_BEHIND_50, UNBOUNDED), 8);
        Check.same("fewest()", Stones.of(FEWER_BEHIND_50).fewest(), 9);
    }

    static void promise19FewerBehindNode2000() {
        Check.same("without a limit", fewestOf(FEWER_BEHIND_2000, 50), 11);
        Check.same("fewest()", Stones.of(FEWER_BEHIND_2000).fewest(), 12);
    }

    private static int fewestOf(String text, int most) {
        int fewest = Integer.MAX_VALUE;
        for (List<Integer> choice : unbounded(text, most).found) {
            fewest = Math.min(fewest, choice.size());
        }
        return fewest;
    }

    static void promise19NotFoundAtNode2001() {
        Check.same("fewest()", Stones.of(FIRST_2001).fewest(), RuneBands.NONE);
    }

    static void promise19NotFoundBehindNode2000() {
        Check.same("fewest()", Stones.of(FIRST_BEHIND).fewest(), RuneBands.NONE);
    }

    // ---- promise 20: repair

    private static void repaired(String text, int due) {
        RuneBands stone = Stones.of(text);
        Check.same("repair() of " + text, stone.repair(), due);
        Check.sameText("the object behind it", Refusal.whole(stone), Refusal.whole(Stones.of(text)));
    }

    static void promise20NoBrokenCorner() {
        repaired("ab|..", RuneBands.NONE);
        repaired("..|..", RuneBands.NONE);
    }

    static void promise20NoneWouldHelp() {
        repaired("/a#|aa.", RuneBands.NONE);
    }

    static void promise20FirstCellRising() {
        repaired("#/\\|a./|#..", 0);
    }

    static void promise20FirstCellFalling() {
        repaired("#a|aa", 1);
    }

    static void promise20LastCell() {
        repaired("..|.#", 6);
        repaired(".......|.......|.......|.......|.......|.......|......#", 96);
    }

    static void promise20BothWouldDo() {
        repaired("a#|..", 2);
    }

    static void promise20OnlyFallingWouldDo() {
        repaired("..|..|#a|aa", 9);
    }

    static void promise20LowestOfTwo() {
        repaired("ab#|#.c", 4);
    }

    static void promise20LowestWouldNotHelp() {
        repaired("a#a|aaa|#..", 12);
    }

    static void promise20FallingOfALowerOneIsBeforeRisingOfAHigherOne() {
        repaired("#a|aa|.#", 1);
    }

    static void promise20ChoiceStandsAlready() {
        repaired("ab#|#.c", 4);
        Check.holds("choices", Stones.of("ab#|#.c").choices(1) > 0);
    }

    static void promise20WithoutRunes() {
        repaired("##|##", 0);
        repaired("..|#.", 4);
    }

    static void promise20ChoiceAtNode2000() {
        String mended = REPAIR_2000.replaceFirst("#", "/");
        Check.same("without a limit", unbounded(mended, 1).looked, 2000);
        Check.same("repair()", Stones.of(REPAIR_2000).repair(), 12);
    }

    static void promise20ChoiceAtNode2001() {
        for (String corner : new String[] {"/", "\\\\"}) {
            String mended = REPAIR_2001.replaceFirst("#", corner);
            Check.same("without a limit", unbounded(mended, 1).looked, 2001);
            Check.same("and found", unbounded(mended, 1).found.size(), 1);
        }
        Check.same("repair()", Stones.of(REPAIR_2001).repair(), 24);
    }

    static void promise20ChoiceBehindNode2000() {
        String mended = REPAIR_BEHIND.replaceFirst("#", "/");
        Check.holds("without a limit", unbounded(mended, 1).looked > 2000);
        Check.same("and found", unbounded(mended, 1).found.size(), 1);
        Check.same("repair()", Stones.of(REPAIR_BEHIND).repair(), 13);
    }

    static void promise20ChangesNothing() {
        RuneBands stone = Refusal.heavy();
        stone.repair();
        Check.sameText("the object", Refusal.whole(stone), Refusal.whole(Refusal.heavy()));
    }

    // ---- promise 21: told

    private static void tells(double due, String text, String... words) {
        Check.sameDouble("told() of " + text, Stones.of(text, words).told(), due);
    }

    static void promise21WithoutRunes() {
        tells(1.0, "..|..");
        tells(1.0, ":/|#.", "a");
    }

    static void promise21EmptyList() {
        tells(0.0, "ab|cd");
    }

    static void promise21NoGoodReading() {
        tells(0.0, "ab|..", "bc", "c");
    }

    static void promise21EachRune() {
        tells(1.0, "ab|..", "ab");
        tells(1.0, FULL, "aaaaaaa");
    }

    static void promise21OneOfMany() {
        tells(1.0 / 3.0, "ab|c.", "c");
        tells(2.0 / 3.0, "ab|c.", "ab");
        tells(7.0 / 49.0, FULL.replaceFirst("aaaaaaa", "bbbbbbb"), "bbbbbbb");
    }

    static void promise21OnlyFromTheHigherGate() {
        tells(1.0, "ab|..", "ab");
    }

    static void promise21OnlyFromTheLowerGate() {
        tells(1.0, "ab|..", "ba");
    }

    static void promise21RuneOfTwoGoodReadingsCountsOnce() {
        tells(1.0, "aa|a.", "aa");
    }

    static void promise21RuneThatIsEnteredTwiceCountsOnce() {
        tells(1.0, "./\\|.a/|...", "aa");
    }

    static void promise21SharedRuneCountsOnce() {
        tells(0.5, "A.|.b", "a");
        tells(1.0, "A.|..", "a");
    }

    static void promise21FirstAndLastRunesCount() {
        tells(1.0, "az|..", "az");
        tells(1.0, "AZ|..", "a", "az", "z");
    }

    static void promise21ReadingWithOneWordThatIsNotInTheList() {
        tells(0.5, "a:b|..:", "a");
    }

    static void promise21RuneBehindABrokenCorner() {
        tells(2.0 / 3.0, "ab#c|....|....", "ab");
    }

    static void promise21OnlyFromGateZero() {
        tells(0.5, "ab|#.", "a");
    }

    static void promise21OnlyFromTheLastGate() {
        tells(0.5, "b.|a#", "a");
    }

    static void promise21RuneThatNoBandEnters() {
        tells(0.0, ".#.|#a#|.#.", "a");
    }
}
