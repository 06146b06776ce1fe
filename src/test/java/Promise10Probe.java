/** Promise 10: probe. */
public final class Promise10Probe {
    public static void main(String[] args) {
        Check.runTestsOf(Promise10Probe.class);
    }

    static void aNodeBelow0IsUnknown() {
        Check.refused("probe(-1)", x -> x.probe(-1), Check.UNKNOWN);
    }

    static void aNodeBehindTheLastIsUnknown() {
        Check.refused("probe(5)", x -> x.probe(5), Check.UNKNOWN);
        Check.refused("probe(12)", x -> x.probe(12), Check.UNKNOWN);
        Check.keeps("probe(12) of 12", () -> Check.boardAlone(Check.GREATEST_BOARD), x -> x.probe(12), Check.UNKNOWN);
    }

    static void aNodeFarAwayIsUnknown() {
        for (int node : Check.FAR_NUMBERS) {
            Check.refused("probe(" + node + ")", x -> x.probe(node), Check.UNKNOWN);
        }
    }

    static void withoutABoardAllAreUnknown() {
        Check.keeps("probe(0)", GuidedProbes::new, x -> x.probe(0), Check.UNKNOWN);
        Check.keeps("probe(0) with TICKS", () -> {
            GuidedProbes x = Check.typed("01");
            x.stimulus();
            return x;
        }, x -> x.probe(0), Check.UNKNOWN);
    }

    static void whatWasProbedAlreadyIsState() {
        // NODE 3 was found BAD, NODE 0 was not.
        Check.refused("probe(3)", x -> x.probe(3), Check.STATE);
        Check.refused("probe(0)", x -> x.probe(0), Check.STATE);
    }

    static void eachNodeOnce() {
        GuidedProbes x = Check.with(Check.GREATEST_BOARD, Check.ITS_STIMULUS);
        x.hurt(100);
        for (int node = 0; node < 12; node++) {
            Check.due("probe(" + node + ")", x.probe(node), 0b010101010001 >> node & 1);
            Check.due("count(5)", x.count(5), node + 1);
        }
        for (int node = 0; node < 12; node++) {
            Check.due("probe(" + node + ") again", x.probe(node), Check.STATE);
        }
        Check.due("count(5)", x.count(5), 12);
        Check.due("count(9)", x.count(9), 12);
    }

    static void onceMoreWhenNothingIsProbedAnyMore() {
        GuidedProbes x = Check.busy();
        x.forget();
        Check.due("probe(3) behind forget()", x.probe(3), 1);
        x.hurt(0);
        Check.due("probe(3) behind hurt(0)", x.probe(3), 0);
        x.blank();
        Check.type(x, "33").stimulus();
        Check.due("probe(3) behind stimulus()", x.probe(3), 0);
        Check.type(x, "2;A01;N2;D3").board();
        Check.due("probe(3) behind board()", x.probe(3), 0);
        Check.due("count(9)", x.count(9), 6);
    }

    static void badIsToldByMarks() {
        GuidedProbes x = Check.hurt(Check.with("1;D0", "100011101"), 100);
        Check.due("FIRST of the INPUT", x.node(0, 8), 0);
        Check.due("probe(0)", x.probe(0), 0);
        Check.due("probe(1)", x.probe(1), 1);
    }

    static void withoutTicksNoneIsBad() {
        GuidedProbes x = Check.hurt(Check.boardAlone("1;N0"), 202);
        Check.due("probe(0)", x.probe(0), 0);
        Check.due("probe(1)", x.probe(1), 0);
        Check.due("count(5)", x.count(5), 2);
    }

    static void withoutFaultNoneIsBad() {
        GuidedProbes x = Check.with("2;A01;N2;D3", "0123");
        for (int node = 0; node < 5; node++) {
            Check.due("probe(" + node + ")", x.probe(node), 0);
        }
    }

    static void aProbeLeavesFewerSuspects() {
        GuidedProbes x = Check.hurt(Check.with("1;N0", "01"), 102);
        Check.due("suspects(0)", x.suspects(0), 5);
        x.probe(0);
        Check.due("suspects(0) behind probe(0)", x.suspects(0), 3);
        Check.due("node(0, 9)", x.node(0, 9), 0);
        Check.due("count(4)", x.count(4), 102);
    }
}
