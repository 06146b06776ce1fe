/** Promise 9: shows. */
public final class Promise09Shows {
    public static void main(String[] args) {
        Check.runTestsOf(Promise09Shows.class);
    }

    private static void isUnknown(int fault) {
        Check.refused("shows(" + fault + ", 0)", x -> x.shows(fault, 0), Check.UNKNOWN);
        Check.refused("shows(" + fault + ", 1)", x -> x.shows(fault, 1), Check.UNKNOWN);
    }

    static void noFaultIsUnknown() {
        isUnknown(0);
        Check.keeps("shows(0, 0)", () -> Check.boardAlone("1;N0"), x -> x.shows(0, 0), Check.UNKNOWN);
    }

    static void otherNumbersThanThoseOfFaultsAreUnknown() {
        int[] faults = {100, 102, 104, 106, 108, 200, 202, 204, 206, 208, 304, 305, 306, 308};
        GuidedProbes x = Check.busy();
        int at = 0;
        for (int number = 90; number <= 420; number++) {
            boolean isFault = at < faults.length && faults[at] == number;
            at += isFault ? 1 : 0;
            Check.due("shows(" + number + ", 0) is UNKNOWN", x.shows(number, 0) == Check.UNKNOWN ? 1 : 0, isFault ? 0 : 1);
        }
    }

    static void unknownNumbersChangeNothing() {
        for (int number : new int[] {99, 101, 110, 210, 303, 307, 309, 310, 400, -100}) {
            isUnknown(number);
        }
        for (int number : Check.FAR_NUMBERS) {
            isUnknown(number);
        }
    }

    static void withoutABoardAllAreUnknown() {
        for (int number : new int[] {0, 100, 200, 300, 302}) {
            Check.keeps("shows(" + number + ", 0)", GuidedProbes::new, x -> x.shows(number, 0), Check.UNKNOWN);
        }
        Check.keeps("shows(100, 2)", GuidedProbes::new, x -> x.shows(100, 2), Check.UNKNOWN);
    }

    static void whatBelow0OrAbove1IsOutside() {
        Check.refused("shows(100, -1)", x -> x.shows(100, -1), Check.OUTSIDE);
        Check.refused("shows(100, 2)", x -> x.shows(100, 2), Check.OUTSIDE);
        for (int what : Check.FAR_NUMBERS) {
            Check.refused("shows(308, " + what + ")", x -> x.shows(308, what), Check.OUTSIDE);
        }
    }

    static void unknownIsToldAheadOfOutside() {
        Check.refused("shows(0, 2)", x -> x.shows(0, 2), Check.UNKNOWN);
        Check.refused("shows(101, -1)", x -> x.shows(101, -1), Check.UNKNOWN);
    }

    static void withoutTicksNothingShows() {
        GuidedProbes x = Check.boardAlone(Check.GREATEST_BOARD);
        for (int fault = 100; fault < 124; fault += 2) {
            Check.due("shows(" + fault + ", 0)", x.shows(fault, 0), 0);
            Check.due("shows(" + fault + ", 1)", x.shows(fault, 1), 0);
            Check.due("shows(" + (fault + 100) + ", 1)", x.shows(fault + 100, 1), 0);
        }
        Check.due("shows(323, 1)", x.shows(323, 1), 0);
    }

    static void badIsToldByMarksUnlikeByHistories() {
        // INPUT 0 folds into the MARK 0; INPUT 1 has 0 always, so that the A has it too.
        GuidedProbes x = Check.with("2;A01", "100011101");
        int[][] want = {{100, 0, 1}, {102, 0, 0}, {104, 0, 0}, {200, 1, 1}, {202, 2, 6}, {204, 4, 4}, {304, 0, 0}, {305, 0, 4}};
        for (int[] row : want) {
            Check.due("shows(" + row[0] + ", 0)", x.shows(row[0], 0), row[1]);
            Check.due("shows(" + row[0] + ", 1)", x.shows(row[0], 1), row[2]);
        }
    }

    static void theFirstAndTheLastNodeHaveTheirBits() {
        GuidedProbes x = Check.with(Check.GREATEST_BOARD, Check.ITS_STIMULUS);
        Check.due("shows(100, 0)", x.shows(100, 0), 0b010101010001);
        Check.due("shows(206, 0)", x.shows(206, 0), 0b101010101000);
        Check.due("shows(122, 0)", x.shows(122, 0), 0b100000000000);
        Check.due("shows(222, 1)", x.shows(222, 1), 0b100000000000);
        Check.due("shows(323, 0)", x.shows(323, 0), 0b100000000000);
        Check.due("shows(308, 1)", x.shows(308, 1), 0b000000010000);
    }

    static void whatTheBoardHasIsNotAsked() {
        GuidedProbes x = Check.with("1;N0", "01");
        int[] faults = {0, 100, 102, 200, 202, 302};
        for (int fault : faults) {
            x.hurt(fault);
            Check.due("shows(100, 0) with " + fault, x.shows(100, 0), 3);
            Check.due("shows(202, 1) with " + fault, x.shows(202, 1), 2);
        }
    }

    static void anotherStimulusShowsOthers() {
        GuidedProbes x = Check.with("1;N0", "0");
        Check.due("shows(100, 0) by 0", x.shows(100, 0), 0);
        Check.due("shows(200, 0) by 0", x.shows(200, 0), 3);
        Check.type(x, "1").stimulus();
        Check.due("shows(100, 0) by 1", x.shows(100, 0), 3);
        Check.due("shows(200, 0) by 1", x.shows(200, 0), 0);
    }

    static void changesNothing() {
        // The A has 1 in the last TICK alone, the N of it 0 there, and the D does not come to it.
        Check.keeps("shows(104, 0)", Check::busy, x -> x.shows(104, 0), 0b01100);
        Check.keeps("shows(208, 1)", Check::busy, x -> x.shows(208, 1), 0b10000);
    }
}
