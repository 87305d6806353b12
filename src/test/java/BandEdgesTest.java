/** Promises 11 and 12, and "Bands" of the terms: each case at a boundary is a method of its own. */
public final class BandEdgesTest {
    /** Band 17 goes to and fro between corners at the border, through nearly all cells twice. */
    private static final String LONG = "/\\/\\/\\A|\\AAAAA\\|/AAAAA/|AAAAAA\\|\\AAAAA/|/AAAAA\\|\\/\\A/\\/";
    /** Band 7 comes from below and goes through cell 4 upward and leftward. */
    private static final String CROSSING = "./\\|../|...";

    public static void main(String[] args) throws IllegalAccessException {
        Cases.run(BandEdgesTest.class);
    }

    // ---- terms: where bands begin

    /** On 3 by 2 cells, whose gates are 0 to 2, 3 and 4, 5 to 7, 8 and 9: the first cell from a gate, and the gate opposite. */
    private static void gateLeadsTo(int gate, int cell, int opposite) {
        RuneBands stone = Stones.of("...|...");
        Check.same("the first cell", stone.cellOf(gate, 0), cell);
        Check.same("the gate at which it ends", stone.band(gate, 1), opposite);
    }

    static void termsFirstGateAbove() {
        gateLeadsTo(0, 0, 5);
    }

    static void termsLastGateAbove() {
        gateLeadsTo(2, 2, 7);
    }

    static void termsFirstGateAtTheRight() {
        gateLeadsTo(3, 2, 8);
    }

    static void termsLastGateAtTheRight() {
        gateLeadsTo(4, 5, 9);
    }

    static void termsFirstGateBelow() {
        gateLeadsTo(5, 3, 0);
    }

    static void termsLastGateBelow() {
        gateLeadsTo(7, 5, 2);
    }

    static void termsFirstGateAtTheLeft() {
        gateLeadsTo(8, 0, 3);
    }

    static void termsLastGateAtTheLeft() {
        gateLeadsTo(9, 3, 4);
    }

    // ---- terms: corners. The one in the middle of 3 by 3 is met from gate 10 rightward, 7 upward, 4 leftward, 1 downward.

    private static void turns(char corner, int gate, int end, String path) {
        RuneBands stone = Stones.of("...|." + corner + ".|...");
        Check.same("the gate at which it ends", stone.band(gate, 1), end);
        Check.sameText("the path", Stones.path(stone, gate), path);
    }

    static void termsRisingCornerRightwardBecomesUpward() {
        turns('/', 10, 1, "3 4 1");
    }

    static void termsRisingCornerUpwardBecomesRightward() {
        turns('/', 7, 4, "7 4 5");
    }

    static void termsRisingCornerLeftwardBecomesDownward() {
        turns('/', 4, 7, "5 4 7");
    }

    static void termsRisingCornerDownwardBecomesLeftward() {
        turns('/', 1, 10, "1 4 3");
    }

    static void termsFallingCornerRightwardBecomesDownward() {
        turns('\\', 10, 7, "3 4 7");
    }

    static void termsFallingCornerDownwardBecomesRightward() {
        turns('\\', 1, 4, "1 4 5");
    }

    static void termsFallingCornerLeftwardBecomesUpward() {
        turns('\\', 4, 1, "5 4 1");
    }

    static void termsFallingCornerUpwardBecomesLeftward() {
        turns('\\', 7, 10, "7 4 3");
    }

    // ---- terms: where bands end

    private static void facts(String text, int gate, int... due) {
        RuneBands stone = Stones.of(text);
        for (int what = 0; what < due.length; what++) {
            Check.same("band(" + gate + ", " + what + ") of " + text, stone.band(gate, what), due[what]);
        }
    }

    static void termsBandEndsAtOnceAtABrokenCorner() {
        facts("#.|..", 0, 0, RuneBands.NONE, 0, 1, 0, 0, 0);
        facts("#.|..", 6, 6, RuneBands.NONE, 0, 1, 0, 0, 0);
    }

    static void termsBandEndsAtOnceAtTheGateBesideTheUpperLeftCell() {
        facts("/..|...", 0, 0, 8, 0, 1, 1, 0, 0);
        facts("/..|...", 8, 0, 0, 0, 1, 1, 0, 0);
    }

    static void termsBandEndsAtOnceAtTheGateBesideTheUpperRightCell() {
        facts("..\\|...", 2, 2, 3, 2, 1, 1, 0, 0);
        facts("..\\|...", 3, 2, 2, 2, 1, 1, 0, 0);
    }

    static void termsBandEndsAtOnceAtTheGateBesideTheLowerLeftCell() {
        facts("...|\\..", 5, 5, 9, 3, 1, 1, 0, 0);
        facts("...|\\..", 9, 5, 5, 3, 1, 1, 0, 0);
    }

    static void termsBandEndsAtOnceAtTheGateBesideTheLowerRightCell() {
        facts("...|../", 7, 4, 4, 5, 1, 1, 0, 0);
        facts("...|../", 4, 4, 7, 5, 1, 1, 0, 0);
    }

    static void termsBandGoesPastNoBrokenCorner() {
        facts("a#b|...", 8, 8, RuneBands.NONE, 1, 2, 0, 1, 0);
        facts("a#b|...", 3, 3, RuneBands.NONE, 1, 2, 0, 1, 0);
    }

    static void termsBrokenCornerInTheLastCell() {
        facts("..#|...", 8, 8, RuneBands.NONE, 2, 3, 0, 0, 0);
        facts("..#|...", 3, 3, RuneBands.NONE, 2, 1, 0, 0, 0);
    }

    static void termsNumberIsTheLowerOneOfBothGates() {
        facts("...|...", 9, 4);
        facts("...|...", 4, 4);
        facts("...|...", 5, 0);
    }

    static void termsNumberOfABandThatEndsAtABrokenCornerIsItsGate() {
        facts("#.|..", 6, 6);
        facts("#.|..", 2, 2);
        facts("##|##", 7, 7);
    }

    static void termsLengthCountsACellEachTime() {
        facts(CROSSING, 7, 7, 10, 3, 7);
        facts(CROSSING, 10, 7, 7, 7, 7);
    }

    static void termsLengthCountsTheBrokenCorner() {
        facts("..#|...", 8, 8, RuneBands.NONE, 2, 3);
    }

    static void termsBandCrossesItself() {
        Check.same("band(7, 6)", Stones.of(CROSSING).band(7, 6), 1);
        Check.same("band(10, 6)", Stones.of(CROSSING).band(10, 6), 1);
    }

    static void termsBandThatCrossesOthersDoesNotCrossItself() {
        RuneBands stone = Stones.of(CROSSING);
        int[] others = {0, 1, 2, 3, 4, 5, 6, 8, 9, 11};
        for (int gate : others) {
            Check.same("band(" + gate + ", 6)", stone.band(gate, 6), 0);
        }
    }

    /** It comes into the corner 4 rightward, turns upward, and comes back leftward. */
    static void termsBandCrossesItselfInACorner() {
        facts("./\\|.//|...", 10, 7, 7, 7, 7, 5, 0, 1);
    }

    static void termsBandThatTouchesAllCellsOnceDoesNotCrossItself() {
        facts("\\\\|.\\|./", 0, 0, 3, 3, 3, 3, 0, 0);
    }

    static void termsBandCrossesItselfAndEndsAtABrokenCorner() {
        facts("./\\|#./|...", 7, 7, RuneBands.NONE, 3, 7, 3, 0, 1);
    }

    static void termsBandThatCrossedItselfNoLongerDoes() {
        RuneBands stone = Stones.of(CROSSING);
        stone.setCell(2, '.');
        Check.same("band(7, 6)", stone.band(7, 6), 0);
        Check.same("bands that cross themselves", stone.value(8), 0);
    }

    static void termsBandThatWouldCrossItselfBehindABrokenCornerDoesNot() {
        facts("./\\|.#/|...", 7, 7, RuneBands.NONE, 4, 2, 0, 0, 0);
        facts("./#|../|...", 7, 7, RuneBands.NONE, 2, 4, 1, 0, 0);
    }

    // ---- promise 11: band

    private static void gateIsTheLast(String text) {
        RuneBands stone = Stones.of(text);
        int gates = stone.value(6);
        int lowestLeft = stone.value(0) * (stone.value(1) - 1);
        Check.same("the cell behind the last gate", stone.cellOf(gates - 1, 0), lowestLeft);
        Check.same("the last gate's band", stone.band(gates - 1, 3), stone.value(0));
        Refusal.index(() -> Stones.of(text), one -> one.band(gates, 0));
        Refusal.index(() -> Stones.of(text), one -> one.cellOf(gates, 0));
    }

    static void promise11GateOneTooSmall() {
        for (int what = 0; what <= 6; what++) {
            int asked = what;
            Refusal.index(stone -> stone.band(-1, asked));
        }
    }

    static void promise11GateSmallest() {
        Check.same("band(0, 3)", Refusal.light().band(0, 3), 2);
    }

    static void promise11GateLargest() {
        Check.same("band(9, 3)", Refusal.light().band(9, 3), 3);
    }

    static void promise11GateOneTooLarge() {
        for (int what = 0; what <= 6; what++) {
            int asked = what;
            Refusal.index(stone -> stone.band(10, asked));
        }
    }

    static void promise11GateLargestOfTheSmallestStone() {
        gateIsTheLast("..|..");
    }

    static void promise11GateLargestOfTheLargestStone() {
        gateIsTheLast(".......|.......|.......|.......|.......|.......|.......");
    }

    /** The band of the largest stone's last gate, 27, goes round four corners and crosses itself in cell 37. */
    static void promise11GateLargestOfTheLargestStoneEachFact() {
        String text = ".......|.......|.......|.......|/.\\....|\\.a....|../....";
        facts(text, 27, 12, 12, 41, 14, 4, 2, 1);
        facts(text, 12, 12, 27, 42, 14, 4, 2, 1);
        Check.sameText("the path", Stones.path(Stones.of(text), 27), "42 43 44 37 30 29 28 35 36 37 38 39 40 41");
    }

    static void promise11GateLargestOfTheWidestAndLowest() {
        gateIsTheLast(".......|.......");
    }

    static void promise11GateLargestOfTheNarrowestAndHighest() {
        gateIsTheLast("..|..|..|..|..|..|..");
    }

    static void promise11GateOfAStoneThatWasLarger() {
        Refusal.index(stone -> stone.band(15, 0));
    }

    static void promise11GateFarOutOfRange() {
        Refusal.index(stone -> stone.band(Integer.MIN_VALUE, 0));
        Refusal.index(stone -> stone.band(Integer.MAX_VALUE, 0));
    }

    static void promise11WhatOneTooSmall() {
        Refusal.argument(stone -> stone.band(0, -1));
        Refusal.argument(stone -> stone.band(9, -1));
    }

    static void promise11WhatSmallest() {
        Check.same("band(5, 0)", Stones.of("..|..").band(5, 0), 1);
    }

    static void promise11WhatLargest() {
        Check.same("band(7, 6)", Stones.of(CROSSING).band(7, 6), 1);
    }

    static void promise11WhatOneTooLarge() {
        Refusal.argument(stone -> stone.band(0, 7));
        Refusal.argument(stone -> stone.band(9, 7));
    }

    static void promise11WhatFarOutOfRange() {
        Refusal.argument(stone -> stone.band(0, Integer.MIN_VALUE));
        Refusal.argument(stone -> stone.band(0, Integer.MAX_VALUE));
    }

    static void promise11GateAndWhatWrongTheGateIsFirst() {
        Refusal.index(stone -> stone.band(10, 7));
        Refusal.index(stone -> stone.band(-1, -1));
    }

    static void promise11EndIsNoneAtABrokenCorner() {
        Check.same("band(0, 1)", Stones.of("..|#.").band(0, 1), RuneBands.NONE);
    }

    static void promise11EndIsGateZero() {
        Check.same("band(4, 1)", Stones.of("..|..").band(4, 1), 0);
    }

    static void promise11LastCellIsTheBrokenCorner() {
        Check.same("band(0, 2)", Stones.of("..|#.").band(0, 2), 2);
    }

    static void promise11LastCellIsTheFirstOne() {
        Check.same("band(0, 2)", Stones.of("/.|..").band(0, 2), 0);
    }

    static void promise11LastCellFromTheOtherGate() {
        Check.same("band(7, 2)", Stones.of(CROSSING).band(7, 2), 3);
        Check.same("band(10, 2)", Stones.of(CROSSING).band(10, 2), 7);
    }

    static void promise11LengthOfOne() {
        Check.same("band(0, 3)", Stones.of("/.|..").band(0, 3), 1);
    }

    static void promise11LengthOfALongBand() {
        Check.same("band(17, 3)", Stones.of(LONG).band(17, 3), 75);
        Check.same("band(24, 3)", Stones.of(LONG).band(24, 3), 75);
    }

    static void promise11NoTurn() {
        Check.same("band(0, 4)", Stones.of("..|..").band(0, 4), 0);
    }

    static void promise11BrokenCornerIsNoTurn() {
        Check.same("band(0, 4)", Stones.of("#.|..").band(0, 4), 0);
    }

    static void promise11SameCornerTurnsTwice() {
        Check.same("band(10, 4)", Stones.of("./\\|.//|...").band(10, 4), 5);
    }

    static void promise11EachCellIsATurn() {
        Check.same("band(0, 4)", Stones.of("\\\\|.\\|./").band(0, 4), 3);
    }

    static void promise11NoRune() {
        Check.same("band(0, 5)", Stones.of("./|:.").band(0, 5), 0);
    }

    static void promise11FirstAndLastRunesCount() {
        Check.same("band(10, 5)", Stones.of("azAZ|....").band(10, 5), 4);
    }

    static void promise11SharedRuneIsOneRune() {
        Check.same("band(0, 5)", Stones.of("A.|..").band(0, 5), 1);
    }

    static void promise11RuneThatIsEnteredTwiceCountsTwice() {
        Check.same("band(7, 5)", Stones.of("./\\|.a/|...").band(7, 5), 2);
    }

    static void promise11RuneBehindABrokenCornerIsNotEntered() {
        Check.same("band(8, 5)", Stones.of("a#b|...").band(8, 5), 1);
    }

    // ---- promise 12: cellOf

    static void promise12GateOneTooSmall() {
        Refusal.index(stone -> stone.cellOf(-1, 0));
    }

    static void promise12GateSmallest() {
        Check.same("cellOf(0, 0)", Refusal.light().cellOf(0, 0), 0);
    }

    static void promise12GateLargest() {
        Check.same("cellOf(9, 0)", Refusal.light().cellOf(9, 0), 3);
    }

    static void promise12GateOneTooLarge() {
        Refusal.index(stone -> stone.cellOf(10, 0));
    }

    static void promise12GateFarOutOfRange() {
        Refusal.index(stone -> stone.cellOf(Integer.MIN_VALUE, 0));
        Refusal.index(stone -> stone.cellOf(Integer.MAX_VALUE, 0));
    }

    static void promise12GateAndIndexWrong() {
        Refusal.index(stone -> stone.cellOf(10, -1));
    }

    static void promise12IndexOneTooSmall() {
        Refusal.index(stone -> stone.cellOf(0, -1));
        Refusal.index(stone -> stone.cellOf(9, -1));
    }

    static void promise12IndexSmallest() {
        Check.same("cellOf(3, 0)", Stones.of("...|...").cellOf(3, 0), 2);
    }

    static void promise12IndexLargest() {
        Check.same("cellOf(3, 2)", Stones.of("...|...").cellOf(3, 2), 0);
        Check.same("cellOf(0, 1)", Stones.of("...|...").cellOf(0, 1), 3);
    }

    static void promise12IndexOneTooLarge() {
        Refusal.index(() -> Stones.of("...|..."), stone -> stone.cellOf(3, 3));
        Refusal.index(() -> Stones.of("...|..."), stone -> stone.cellOf(0, 2));
    }

    static void promise12IndexFarOutOfRange() {
        Refusal.index(stone -> stone.cellOf(0, Integer.MAX_VALUE));
        Refusal.index(stone -> stone.cellOf(0, Integer.MIN_VALUE));
        Refusal.index(stone -> stone.cellOf(0, 98));
    }

    static void promise12BandOfOneCell() {
        Check.same("cellOf(0, 0)", Stones.of("#.|..").cellOf(0, 0), 0);
        Refusal.index(() -> Stones.of("#.|.."), stone -> stone.cellOf(0, 1));
        Check.same("cellOf(0, 0)", Stones.of("/.|..").cellOf(0, 0), 0);
        Refusal.index(() -> Stones.of("/.|.."), stone -> stone.cellOf(0, 1));
    }

    static void promise12BrokenCornerIsTheLastCell() {
        Check.same("cellOf(8, 1)", Stones.of("a#b|...").cellOf(8, 1), 1);
        Refusal.index(() -> Stones.of("a#b|..."), stone -> stone.cellOf(8, 2));
    }

    static void promise12BandThatCrossesItself() {
        Check.sameText("from below", Stones.path(Stones.of(CROSSING), 7), "7 4 1 2 5 4 3");
        Check.sameText("from the left", Stones.path(Stones.of(CROSSING), 10), "3 4 5 2 1 4 7");
        Refusal.index(() -> Stones.of(CROSSING), stone -> stone.cellOf(7, 7));
    }

    static void promise12LongBand() {
        Check.same("cellOf(17, 74)", Stones.of(LONG).cellOf(17, 74), 21);
        Refusal.index(() -> Stones.of(LONG), stone -> stone.cellOf(17, 75));
    }

    static void promise12BandThatWasLonger() {
        Refusal.index(() -> {
            RuneBands stone = Stones.of("...|...");
            stone.setCell(1, '#');
            return stone;
        }, stone -> stone.cellOf(3, 2));
    }
}
