/** Promise 7: hurt. */
public final class Promise07Hurt {
    public static void main(String[] args) {
        Check.runTestsOf(Promise07Hurt.class);
    }

    private static void isKnown(GuidedProbes x, int fault) {
        x.hurt(0);
        Check.due("hurt(" + fault + ")", x.hurt(fault), 0);
        Check.due("count(4)", x.count(4), fault);
    }

    private static void isUnknown(int fault) {
        Check.refused("hurt(" + fault + ")", x -> x.hurt(fault), Check.UNKNOWN);
    }

    private static void isUnknownOfGreatest(int fault) {
        Check.due("hurt(" + fault + ")", Check.boardAlone(Check.GREATEST_BOARD).hurt(fault), Check.UNKNOWN);
    }

    static void withoutABoardThereIsNone() {
        for (int fault : new int[] {1, 99, 100, 200, 300, 302, 304, Integer.MIN_VALUE, Integer.MAX_VALUE}) {
            Check.keeps("hurt(" + fault + ")", GuidedProbes::new, x -> x.hurt(fault), Check.UNKNOWN);
        }
        Check.keeps("hurt(0)", GuidedProbes::new, x -> x.hurt(0), 0);
    }

    static void kinds1And2OfEachNodeAreKnown() {
        GuidedProbes x = Check.busy();
        GuidedProbes greatest = Check.boardAlone(Check.GREATEST_BOARD);
        for (int node = 0; node < 12; node++) {
            if (node < 5) {
                isKnown(x, 100 + 2 * node);
                isKnown(x, 200 + 2 * node);
            }
            isKnown(greatest, 100 + 2 * node);
            isKnown(greatest, 200 + 2 * node);
        }
    }

    static void kinds1And2OfNoNodeAreUnknown() {
        isUnknown(98);
        isUnknown(110);
        isUnknown(122);
        isUnknown(198);
        isUnknown(210);
        isUnknownOfGreatest(124);
        isUnknownOfGreatest(224);
    }

    static void kinds1And2HaveNoPin1() {
        for (int node = 0; node < 5; node++) {
            isUnknown(100 + 2 * node + 1);
            isUnknown(200 + 2 * node + 1);
        }
        isUnknownOfGreatest(123);
        isUnknownOfGreatest(223);
    }

    static void kind3OfEachPinIsKnown() {
        GuidedProbes x = Check.busy();
        for (int fault : new int[] {304, 305, 306, 308}) {
            isKnown(x, fault);
        }
        GuidedProbes greatest = Check.boardAlone(Check.GREATEST_BOARD);
        for (int fault = 308; fault <= 323; fault++) {
            isKnown(greatest, fault);
        }
    }

    static void kind3OfNoPinIsUnknown() {
        // INPUTS have no PIN, N and D no second one, and there is no NODE 5.
        for (int fault : new int[] {299, 300, 301, 302, 303, 307, 309, 310, 311}) {
            isUnknown(fault);
        }
        isUnknownOfGreatest(307);
        isUnknownOfGreatest(324);
    }

    static void otherKindsAreUnknown() {
        for (int fault : new int[] {1, 2, 4, 99, 400, 404, 500, 1104, -100, -104, -304}) {
            isUnknown(fault);
        }
        for (int fault : Check.FAR_NUMBERS) {
            isUnknown(fault);
        }
    }

    static void answersWhichItHad() {
        GuidedProbes x = Check.with("2;A01;N2;D3", "0123");
        Check.due("hurt(100)", x.hurt(100), 0);
        Check.due("hurt(308)", x.hurt(308), 100);
        Check.due("hurt(301)", x.hurt(301), Check.UNKNOWN);
        Check.due("hurt(308) again", x.hurt(308), 308);
        Check.due("hurt(0)", x.hurt(0), 308);
        Check.due("hurt(0) again", x.hurt(0), 0);
    }

    static void itHasTheFaultAlone() {
        GuidedProbes x = Check.with("2;A01;N2;D3", "0123");
        x.hurt(200);
        x.hurt(206);
        Check.due("HISTORY NOW of INPUT 0", x.node(0, 5), 0b1010);
        Check.due("HISTORY NOW of the N", x.node(3, 5), 0b1111);
    }

    static void noFaultLeavesAllGood() {
        GuidedProbes x = Check.busy();
        x.hurt(0);
        for (int node = 0; node < 5; node++) {
            Check.due("HISTORY NOW of " + node, x.node(node, 5), x.node(node, 3));
            Check.due("FIRST of " + node, x.node(node, 8), Check.NONE);
            Check.due("place(" + node + ")", x.place(node), Check.NONE);
        }
    }

    private static void forgets(GuidedProbes x, int fault) {
        x.hurt(fault);
        Check.due("count(5) behind hurt(" + fault + ")", x.count(5), 0);
        Check.due("node(3, 9) behind hurt(" + fault + ")", x.node(3, 9), Check.NONE);
        Check.due("suspects(0) behind hurt(" + fault + ")", x.suspects(0), Check.with("2;A01;N2;D3", "0123").suspects(0));
        Check.due("count(9) behind hurt(" + fault + ")", x.count(9), 2);
    }

    static void nothingIsProbedAnyMore() {
        forgets(Check.busy(), 100);
        forgets(Check.busy(), 0);
    }

    static void nothingIsProbedAnyMoreByTheSameFault() {
        forgets(Check.busy(), 104);
        GuidedProbes x = Check.with("1;N0", "01");
        x.probe(0);
        x.hurt(0);
        Check.due("count(5) behind 0 where none was", x.count(5), 0);
    }

    static void withoutTicksItHasTheFault() {
        GuidedProbes x = Check.boardAlone("1;N0");
        Check.due("hurt(202)", x.hurt(202), 0);
        Check.due("count(4)", x.count(4), 202);
        Check.due("HISTORY NOW", x.node(1, 5), 0);
        Check.type(x, "1").stimulus();
        Check.due("HISTORY NOW in a TICK", x.node(1, 5), 1);
    }
}
