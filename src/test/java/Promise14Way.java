/** Promise 14: way. */
public final class Promise14Way {
    public static void main(String[] args) {
        Check.runTestsOf(Promise14Way.class);
    }

    private static void is(GuidedProbes x, int node, int... want) {
        for (int place = 0; place < want.length; place++) {
            Check.due("way(" + node + ", " + place + ")", x.way(node, place), want[place]);
        }
        for (int place = want.length; place <= 12; place++) {
            Check.due("way(" + node + ", " + place + ")", x.way(node, place), Check.NONE);
        }
    }

    static void aNodeBelow0IsUnknown() {
        Check.refused("way(-1, 0)", x -> x.way(-1, 0), Check.UNKNOWN);
    }

    static void aNodeBehindTheLastIsUnknown() {
        Check.refused("way(5, 0)", x -> x.way(5, 0), Check.UNKNOWN);
        Check.refused("way(12, 0)", x -> x.way(12, 0), Check.UNKNOWN);
    }

    static void aNodeFarAwayIsUnknown() {
        for (int node : Check.FAR_NUMBERS) {
            Check.refused("way(" + node + ", 0)", x -> x.way(node, 0), Check.UNKNOWN);
        }
    }

    static void withoutABoardAllAreUnknown() {
        Check.keeps("way(0, 0)", GuidedProbes::new, x -> x.way(0, 0), Check.UNKNOWN);
        Check.keeps("way(0, -1)", GuidedProbes::new, x -> x.way(0, -1), Check.UNKNOWN);
    }

    static void unknownIsToldWhateverThePlace() {
        Check.refused("way(5, -1)", x -> x.way(5, -1), Check.UNKNOWN);
        Check.refused("way(-1, 100)", x -> x.way(-1, 100), Check.UNKNOWN);
    }

    static void place0IsTheNodeItself() {
        is(Check.busy(), 3, 3, 2);
        is(Check.busy(), 2, 2);
    }

    static void aPlaceBelow0IsNone() {
        Check.refused("way(3, -1)", x -> x.way(3, -1), Check.NONE);
        Check.refused("way(3, MIN)", x -> x.way(3, Integer.MIN_VALUE), Check.NONE);
        Check.refused("way(0, -1)", x -> x.way(0, -1), Check.NONE);
    }

    static void aPlaceBehindTheLastIsNone() {
        Check.refused("way(3, 2)", x -> x.way(3, 2), Check.NONE);
        Check.refused("way(3, 12)", x -> x.way(3, 12), Check.NONE);
        Check.refused("way(3, MAX)", x -> x.way(3, Integer.MAX_VALUE), Check.NONE);
    }

    static void placesOfALongerWayAreNotLeft() {
        GuidedProbes x = Check.busy();
        Check.due("way(3, 1)", x.way(3, 1), 2);
        Check.due("way(2, 1)", x.way(2, 1), Check.NONE);
        Check.due("way(4, 0)", x.way(4, 0), Check.NONE);
    }

    static void aNodeAsGoodHasNone() {
        GuidedProbes x = Check.busy();
        is(x, 0);
        is(x, 4);
        GuidedProbes y = Check.with("2;A01;N2;D3", "0123");
        for (int node = 0; node < 5; node++) {
            is(y, node);
        }
    }

    static void withoutTicksAllAreAsGood() {
        GuidedProbes x = Check.hurt(Check.boardAlone("1;N0"), 202);
        is(x, 0);
        is(x, 1);
    }

    static void historiesAreAskedNotMarks() {
        // The MARK of INPUT 0 is as GOOD, its HISTORY is not.
        GuidedProbes x = Check.hurt(Check.with("1;D0", "100011101"), 100);
        is(x, 0, 0);
        is(x, 1, 1, 0);
    }

    static void itEndsAtAnInput() {
        GuidedProbes x = Check.hurt(Check.with("1;N0;N1", "01"), 100);
        is(x, 0, 0);
        is(x, 2, 2, 1, 0);
    }

    static void itEndsWhereDriversAreAsGood() {
        GuidedProbes x = Check.hurt(Check.with("1;N0;N1", "01"), 102);
        is(x, 2, 2, 1);
        is(x, 1, 1);
    }

    static void aDriverWithALikeFirstIsGoneTo() {
        // N and D feed back; the D's PIN is OPEN: both are unlike from TICK 2 on.
        GuidedProbes x = Check.hurt(Check.with("1;N2;D1", "0000"), 304);
        Check.due("FIRST of the N", x.node(1, 8), 2);
        Check.due("FIRST of the D", x.node(2, 8), 2);
        is(x, 1, 1, 2);
    }

    static void fromADelayADriverWithALikeFirstIsNotGoneTo() {
        is(Check.hurt(Check.with("1;N2;D1", "0000"), 304), 2, 2);
    }

    static void fromADelayADriverWithALesserFirstIsGoneTo() {
        GuidedProbes x = Check.hurt(Check.with("1;N2;D1", "0000"), 202);
        Check.due("FIRST of the N", x.node(1, 8), 1);
        Check.due("FIRST of the D", x.node(2, 8), 2);
        is(x, 2, 2, 1);
    }

    static void aDriverWithAGreaterFirstIsNotGoneTo() {
        is(Check.hurt(Check.with("1;N2;D1", "0000"), 202), 1, 1);
        // The A is stuck; the D that drives it is unlike one TICK later.
        GuidedProbes x = Check.hurt(Check.with("1;A02;D1", "1111"), 202);
        Check.due("FIRST of the A", x.node(1, 8), 0);
        Check.due("FIRST of the D", x.node(2, 8), 1);
        is(x, 1, 1);
        is(x, 2, 2, 1);
    }

    static void aDelayThatDrivesItselfIsNotGoneToAgain() {
        is(Check.hurt(Check.with("1;D1", "0000"), 202), 1, 1);
        is(Check.hurt(Check.with("1;D1", "0000"), 302), 1, 1);
    }

    static void theLeastFirstIsGoneToNotTheLeastNumber() {
        // INPUT 0, the D of it (2) and the D of that (1) are unlike from TICKS 0, 1, 2 on, both A from TICK 2 on.
        GuidedProbes x = Check.hurt(Check.with("1;D2;D0;A12;A21", "1111"), 100);
        Check.due("FIRST of 1", x.node(1, 8), 2);
        Check.due("FIRST of 2", x.node(2, 8), 1);
        Check.due("FIRST of 3", x.node(3, 8), 2);
        is(x, 3, 3, 2, 0);
        is(x, 4, 4, 2, 0);
    }

    static void ofLikeFirstsTheLeastNumberIsGoneTo() {
        GuidedProbes x = Check.hurt(Check.with("1;N0;N0;A21;A12;X34;X43", "1"), 100);
        is(x, 3, 3, 1, 0);
        is(x, 4, 4, 1, 0);
    }

    static void oneNodeAtBothPinsIsOnePlace() {
        is(Check.hurt(Check.with("1;A00", "1"), 100), 1, 1, 0);
    }

    static void itEndsAtTheGateWhosePinIsOpen() {
        is(Check.hurt(Check.with("2;X01", "0"), 304), 2, 2);
    }

    static void theLongestWayHasNinePlaces() {
        GuidedProbes x = Check.hurt(Check.with("4;N3;N4;N5;N6;N7;N8;N9;Na", "8"), 106);
        is(x, 11, 11, 10, 9, 8, 7, 6, 5, 4, 3);
        GuidedProbes y = Check.hurt(Check.with("1;D0;D1;D2;D3;D4;D5;D6;D7", "111111111"), 100);
        is(y, 8, 8, 7, 6, 5, 4, 3, 2, 1, 0);
    }

    static void itIsToldByNowNotByWhatWas() {
        GuidedProbes x = Check.hurt(Check.with("1;N0", "01"), 100);
        is(x, 1, 1, 0);
        x.hurt(202);
        is(x, 1, 1);
        x.hurt(0);
        is(x, 1);
        x.hurt(100);
        Check.type(x, "0").stimulus();
        is(x, 1);
    }
}
