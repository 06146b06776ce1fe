/** Promise 13: suspect. */
public final class Promise13Suspect {
    public static void main(String[] args) {
        Check.runTestsOf(Promise13Suspect.class);
    }

    private static GuidedProbes five() {
        return Check.with("1;N0", "01");
    }

    private static void isUnknown(int suspect) {
        for (int what = 0; what <= 2; what++) {
            int of = what;
            Check.keeps("suspect(" + suspect + ", " + what + ")", Promise13Suspect::five, x -> x.suspect(suspect, of), Check.UNKNOWN);
        }
    }

    static void aSuspectBelow0IsUnknown() {
        isUnknown(-1);
        Check.refused("suspect(-1, 0)", x -> x.suspect(-1, 0), Check.UNKNOWN);
    }

    static void aSuspectBehindTheLastIsUnknown() {
        Check.due("suspect(4, 0)", five().suspect(4, 0), 302);
        isUnknown(5);
        isUnknown(39);
        isUnknown(40);
    }

    static void aSuspectFarAwayIsUnknown() {
        for (int suspect : Check.FAR_NUMBERS) {
            isUnknown(suspect);
            Check.refused("suspect(" + suspect + ", 0)", x -> x.suspect(suspect, 0), Check.UNKNOWN);
        }
    }

    static void whereThereAreNoneAllAreUnknown() {
        Check.keeps("suspect(0, 0) without BOARD", GuidedProbes::new, x -> x.suspect(0, 0), Check.UNKNOWN);
        Check.keeps("suspect(0, 0) without TICKS", () -> Check.boardAlone("1;N0"), x -> x.suspect(0, 0), Check.UNKNOWN);
        Check.keeps("suspect(0, 3) without BOARD", GuidedProbes::new, x -> x.suspect(0, 3), Check.UNKNOWN);
    }

    static void whatBelow0OrAbove2IsOutside() {
        Check.keeps("suspect(0, -1)", Promise13Suspect::five, x -> x.suspect(0, -1), Check.OUTSIDE);
        Check.keeps("suspect(4, 3)", Promise13Suspect::five, x -> x.suspect(4, 3), Check.OUTSIDE);
        for (int what : Check.FAR_NUMBERS) {
            Check.keeps("suspect(0, " + what + ")", Promise13Suspect::five, x -> x.suspect(0, what), Check.OUTSIDE);
            Check.refused("suspect(0, " + what + ")", x -> x.suspect(0, what), Check.OUTSIDE);
        }
    }

    static void unknownIsToldAheadOfOutside() {
        Check.keeps("suspect(5, 3)", Promise13Suspect::five, x -> x.suspect(5, 3), Check.UNKNOWN);
        Check.keeps("suspect(-1, -1)", Promise13Suspect::five, x -> x.suspect(-1, -1), Check.UNKNOWN);
    }

    static void theyComeInTheOrderOfFaults() {
        int[][] want = {{100, 2, 1}, {102, 3, 1}, {200, 2, 1}, {202, 3, 1}, {302, 3, 1}};
        for (int suspect = 0; suspect < want.length; suspect++) {
            for (int what = 0; what <= 2; what++) {
                Check.due("suspect(" + suspect + ", " + what + ")", five().suspect(suspect, what), want[suspect][what]);
            }
        }
    }

    static void allOfThe40AreTold() {
        GuidedProbes x = Check.with(Check.GREATEST_BOARD, Check.ITS_STIMULUS);
        for (int node = 0; node < 12; node++) {
            Check.due("suspect(" + node + ", 0)", x.suspect(node, 0), 100 + 2 * node);
            Check.due("suspect(" + (12 + node) + ", 0)", x.suspect(12 + node, 0), 200 + 2 * node);
        }
        for (int pin = 0; pin < 16; pin++) {
            Check.due("suspect(" + (24 + pin) + ", 0)", x.suspect(24 + pin, 0), 308 + pin);
        }
        // NEXT are 4 to 10; NODE 11 would be BAD by all four that are left then.
        Check.due("suspect(39, 1)", x.suspect(39, 1), 4);
        Check.due("suspect(39, 2)", x.suspect(39, 2), 7);
        Check.due("suspect(40, 0)", x.suspect(40, 0), Check.UNKNOWN);
    }

    static void thoseBehindOneThatIsGoneMoveUp() {
        GuidedProbes x = five();
        x.probe(0);
        int[] want = {102, 202, 302};
        for (int suspect = 0; suspect < want.length; suspect++) {
            Check.due("suspect(" + suspect + ", 0)", x.suspect(suspect, 0), want[suspect]);
            Check.due("REST of " + want[suspect], x.suspect(suspect, 1), 3);
            Check.due("STEPS of " + want[suspect], x.suspect(suspect, 2), 0);
        }
        Check.due("suspect(3, 0)", x.suspect(3, 0), Check.UNKNOWN);
    }

    static void theLastOneHasRest1AndNoSteps() {
        GuidedProbes x = Check.hurt(Check.with("2;A01", "100011101"), 200);
        x.probe(0);
        Check.due("suspect(0, 0)", x.suspect(0, 0), 200);
        Check.due("suspect(0, 1)", x.suspect(0, 1), 1);
        Check.due("suspect(0, 2)", x.suspect(0, 2), 0);
        Check.due("suspect(1, 0)", x.suspect(1, 0), Check.UNKNOWN);
    }

    static void restAndStepsAreThoseOfTheFaultNotOfTheBoard() {
        // NEXT is 0 first, which parts 200 at once; 202 and 204 take one more.
        GuidedProbes x = Check.hurt(Check.with("2;A01", "100011101"), 204);
        int[][] want = {{200, 1, 1}, {202, 1, 2}, {204, 1, 2}};
        for (int suspect = 0; suspect < want.length; suspect++) {
            for (int what = 0; what <= 2; what++) {
                Check.due("suspect(" + suspect + ", " + what + ")", x.suspect(suspect, what), want[suspect][what]);
            }
        }
    }

    static void changesNothing() {
        int[] want = {102, 3, 1};
        for (int what = 0; what <= 2; what++) {
            int of = what;
            Check.keeps("suspect(1, " + what + ")", Promise13Suspect::five, x -> x.suspect(1, of), want[what]);
        }
    }
}
