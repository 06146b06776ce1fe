/** Promise 15: place. */
public final class Promise15Place {
    public static void main(String[] args) {
        Check.runTestsOf(Promise15Place.class);
    }

    static void aNodeBelow0IsUnknown() {
        Check.refused("place(-1)", x -> x.place(-1), Check.UNKNOWN);
    }

    static void aNodeBehindTheLastIsUnknown() {
        Check.refused("place(5)", x -> x.place(5), Check.UNKNOWN);
        Check.refused("place(12)", x -> x.place(12), Check.UNKNOWN);
        Check.keeps("place(12) of 12", () -> Check.boardAlone(Check.GREATEST_BOARD), x -> x.place(12), Check.UNKNOWN);
    }

    static void aNodeFarAwayIsUnknown() {
        for (int node : Check.FAR_NUMBERS) {
            Check.refused("place(" + node + ")", x -> x.place(node), Check.UNKNOWN);
        }
    }

    static void withoutABoardAllAreUnknown() {
        Check.keeps("place(0)", GuidedProbes::new, x -> x.place(0), Check.UNKNOWN);
    }

    static void aNodeAsGoodHasNone() {
        Check.refused("place(0)", x -> x.place(0), Check.NONE);
        Check.refused("place(4)", x -> x.place(4), Check.NONE);
        GuidedProbes x = Check.with("2;A01;N2;D3", "0123");
        for (int node = 0; node < 5; node++) {
            Check.due("place(" + node + ")", x.place(node), Check.NONE);
        }
    }

    static void withoutTicksAllAreAsGood() {
        Check.due("place(1)", Check.hurt(Check.boardAlone("1;N0"), 202).place(1), Check.NONE);
    }

    static void aWayOfOneEndsWhereItBegins() {
        Check.refused("place(2)", x -> x.place(2), 2);
        Check.due("place(0) of an INPUT", Check.hurt(Check.with("1;N0", "01"), 100).place(0), 0);
    }

    static void theLongestWayEndsAtItsLast() {
        Check.due("place(11)", Check.hurt(Check.with("4;N3;N4;N5;N6;N7;N8;N9;Na", "8"), 106).place(11), 3);
        Check.due("place(8)", Check.hurt(Check.with("1;D0;D1;D2;D3;D4;D5;D6;D7", "111111111"), 100).place(8), 0);
    }

    static void aLoopIsBrokenByWhichWasBadFirst() {
        GuidedProbes x = Check.hurt(Check.with("1;N2;D1", "0000"), 304);
        Check.due("place(1) by the D", x.place(1), 2);
        Check.due("place(2) by the D", x.place(2), 2);
        x.hurt(202);
        Check.due("place(1) by the N", x.place(1), 1);
        Check.due("place(2) by the N", x.place(2), 1);
    }

    static void historiesAreAskedNotMarks() {
        Check.due("place(0)", Check.hurt(Check.with("1;D0", "100011101"), 100).place(0), 0);
    }

    static void changesNothing() {
        Check.keeps("place(3)", Check::busy, x -> x.place(3), 2);
    }
}
