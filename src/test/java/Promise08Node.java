/** Promise 8: node. */
public final class Promise08Node {
    private static final String SIXTEENTH_ALONE = "0000000000000001";
    /** As bits, the first one highest: 256 + 29, which fold into the MARK 0 of no bit at all. */
    private static final String FOLDS_INTO_0 = "100011101";

    public static void main(String[] args) {
        Check.runTestsOf(Promise08Node.class);
    }

    private static void isUnknown(int node) {
        for (int what = 0; what <= 9; what++) {
            int of = what;
            Check.refused("node(" + node + ", " + what + ")", x -> x.node(node, of), Check.UNKNOWN);
        }
    }

    private static void now(GuidedProbes x, int fault, int node, int history) {
        x.hurt(fault);
        Check.due("HISTORY NOW of " + node + " by " + fault, x.node(node, 5), history);
    }

    static void aNodeBelow0IsUnknown() {
        isUnknown(-1);
    }

    static void aNodeBehindTheLastIsUnknown() {
        isUnknown(5);
        isUnknown(11);
        isUnknown(12);
        GuidedProbes greatest = Check.boardAlone(Check.GREATEST_BOARD);
        Check.due("node(11, 0)", greatest.node(11, 0), 3);
        Check.due("node(12, 0)", greatest.node(12, 0), Check.UNKNOWN);
    }

    static void aNodeFarAwayIsUnknown() {
        for (int node : Check.FAR_NUMBERS) {
            Check.refused("node(" + node + ", 0)", x -> x.node(node, 0), Check.UNKNOWN);
        }
    }

    static void withoutABoardAllAreUnknown() {
        for (int what = -1; what <= 10; what++) {
            int of = what;
            Check.keeps("node(0, " + what + ")", GuidedProbes::new, x -> x.node(0, of), Check.UNKNOWN);
        }
    }

    static void whatBelow0OrAbove9IsOutside() {
        for (int node = 0; node < 5; node++) {
            int of = node;
            Check.refused("node(" + node + ", -1)", x -> x.node(of, -1), Check.OUTSIDE);
            Check.refused("node(" + node + ", 10)", x -> x.node(of, 10), Check.OUTSIDE);
        }
        for (int what : Check.FAR_NUMBERS) {
            Check.refused("node(0, " + what + ")", x -> x.node(0, what), Check.OUTSIDE);
        }
    }

    static void unknownIsToldAheadOfOutside() {
        Check.refused("node(5, 10)", x -> x.node(5, 10), Check.UNKNOWN);
        Check.refused("node(-1, -1)", x -> x.node(-1, -1), Check.UNKNOWN);
    }

    static void changesNothing() {
        int[] want = {4, 2, Check.NONE, 0b0111, 0b1110, 0b1111, 0b1111, 1, 3, 1};
        for (int what = 0; what <= 9; what++) {
            int of = what;
            Check.keeps("node(3, " + what + ")", Check::busy, x -> x.node(3, of), want[what]);
        }
    }

    static void eachKindHasItsNumber() {
        GuidedProbes x = Check.boardAlone("1;A00;O00;X00;N0;D0");
        for (int kind = 0; kind <= 5; kind++) {
            Check.due("node(" + kind + ", 0)", x.node(kind, 0), kind);
        }
    }

    static void aPinThatANodeHasNotIsNone() {
        GuidedProbes x = Check.boardAlone("2;A01;O10;X11;N1;D1");
        int[][] want = {{Check.NONE, Check.NONE}, {Check.NONE, Check.NONE}, {0, 1}, {1, 0}, {1, 1}, {1, Check.NONE}, {1, Check.NONE}};
        for (int node = 0; node < want.length; node++) {
            Check.due("node(" + node + ", 1)", x.node(node, 1), want[node][0]);
            Check.due("node(" + node + ", 2)", x.node(node, 2), want[node][1]);
        }
    }

    static void driversAreTold0To11() {
        GuidedProbes x = Check.boardAlone("4;N0;A01;O23;X45;A67;N8;Db;X8a");
        Check.due("node(9, 1)", x.node(9, 1), 8);
        Check.due("node(10, 1)", x.node(10, 1), 11);
        Check.due("node(11, 1)", x.node(11, 1), 8);
        Check.due("node(11, 2)", x.node(11, 2), 10);
        Check.due("node by figure 9", Check.boardAlone("4" + Check.repeated(";N0", 6) + ";N9").node(10, 1), 9);
    }

    static void withoutTicksHistoryAndMarkAre0() {
        GuidedProbes x = Check.hurt(Check.boardAlone("1;N0;D1"), 202);
        for (int node = 0; node < 3; node++) {
            for (int what = 3; what <= 7; what++) {
                Check.due("node(" + node + ", " + what + ")", x.node(node, what), 0);
            }
            Check.due("node(" + node + ", 8)", x.node(node, 8), Check.NONE);
        }
    }

    static void historyHasSixteenTicks() {
        GuidedProbes all = Check.with("1;N0", Check.repeated("1", 16));
        Check.due("HISTORY of sixteen bits", all.node(0, 3), 65535);
        Check.due("HISTORY of none", all.node(1, 3), 0);
        GuidedProbes last = Check.with("1;N0", SIXTEENTH_ALONE);
        Check.due("HISTORY of the last TICK", last.node(0, 3), 32768);
        Check.due("HISTORY of all but the last", last.node(1, 3), 32767);
        Check.due("MARK of the last TICK", last.node(0, 4), 1);
    }

    static void aDelayHas0InTick0() {
        Check.due("D by a 1", Check.with("1;D0", "1").node(1, 3), 0);
        Check.due("D by a N of 0", Check.with("1;N0;D1", "0").node(2, 3), 0);
        Check.due("D by itself", Check.with("1;D1", "1111").node(1, 3), 0);
    }

    static void aDelayHasWhatWasSoInTheTickAhead() {
        Check.due("D by an INPUT", Check.with("1;D0", "1011").node(1, 3), 0b1010);
        GuidedProbes x = Check.with("1;D2;D3;D0;D3", "10010");
        Check.due("D by an INPUT", x.node(3, 3), 0b10010);
        Check.due("D by a D behind it", x.node(2, 3), 0b00100);
        Check.due("D by a D by a D, behind it", x.node(1, 3), 0b01000);
        Check.due("D by a D ahead of it", x.node(4, 3), 0b00100);
    }

    static void aDelayByTheLastNode() {
        GuidedProbes x = Check.with("4;Db" + Check.repeated(";N0", 7), "0101");
        Check.due("HISTORY of 11", x.node(11, 3), 0b0101);
        Check.due("HISTORY of the D by 11", x.node(4, 3), 0b1010);
    }

    static void theLastTickGoesNowhere() {
        Check.due("D of a last 1", Check.with("1;D0", SIXTEENTH_ALONE).node(1, 3), 0);
        Check.due("D of a last 1 but one", Check.with("1;D0", "0000000000000010").node(1, 3), 32768);
    }

    static void anotherRunBeginsWith0Again() {
        GuidedProbes x = Check.with("1;D0", "1111");
        Check.type(x, "0000").stimulus();
        Check.due("HISTORY of the D", x.node(1, 3), 0);
        x.hurt(202);
        x.hurt(0);
        Check.due("HISTORY NOW of the D", x.node(1, 5), 0);
    }

    static void delaysComeFirst() {
        GuidedProbes x = Check.with("1;N2;D0;N1", "1010");
        Check.due("D", x.node(2, 3), 0b1010);
        Check.due("N ahead of its D", x.node(1, 3), 0b0101);
        Check.due("N of that", x.node(3, 3), 0b1010);
    }

    static void aMarkBelow128IsDoubled() {
        Check.due("MARK of 127", Check.with("1;N0", "01111111").node(0, 4), 127);
        Check.due("MARK of 127 and a 0", Check.with("1;N0", "011111110").node(0, 4), 254);
        Check.due("MARK of 127 and a 1", Check.with("1;N0", "011111111").node(0, 4), 255);
    }

    static void aMarkOf128IsFolded() {
        Check.due("MARK of 128", Check.with("1;N0", "10000000").node(0, 4), 128);
        Check.due("MARK of 128 and a 0", Check.with("1;N0", "100000000").node(0, 4), 29);
        Check.due("MARK of 128 and a 1", Check.with("1;N0", "100000001").node(0, 4), 28);
    }

    static void aMarkHasEightBits() {
        int[] ones = {1, 3, 7, 15, 31, 63, 127, 255, 226, 216, 172, 68, 137, 14, 29, 59};
        for (int ticks = 1; ticks <= 16; ticks++) {
            Check.due("MARK of " + ticks + " ones", Check.with("1;N0", Check.repeated("1", ticks)).node(0, 4), ones[ticks - 1]);
        }
    }

    static void badIsToldByMarksFirstByHistories() {
        GuidedProbes x = Check.hurt(Check.with("1;D0", FOLDS_INTO_0), 100);
        Check.due("HISTORY GOOD", x.node(0, 3), 369);
        Check.due("MARK GOOD", x.node(0, 4), 0);
        Check.due("HISTORY NOW", x.node(0, 5), 0);
        Check.due("MARK NOW", x.node(0, 6), 0);
        Check.due("BAD", x.node(0, 7), 0);
        Check.due("FIRST", x.node(0, 8), 0);
        Check.due("BAD of the D", x.node(1, 7), 1);
        Check.due("FIRST of the D", x.node(1, 8), 1);
    }

    static void firstIsTick0To15OrNone() {
        GuidedProbes x = Check.with("1;N0", SIXTEENTH_ALONE);
        Check.due("FIRST without FAULT", x.node(0, 8), Check.NONE);
        x.hurt(100);
        Check.due("FIRST by stuck at 0", x.node(0, 8), 15);
        Check.due("FIRST of the N", x.node(1, 8), 15);
        x.hurt(200);
        Check.due("FIRST by stuck at 1", x.node(0, 8), 0);
        GuidedProbes y = Check.hurt(Check.with("1;N0", Check.repeated("1", 16)), 200);
        Check.due("FIRST by stuck at what it is", y.node(0, 8), Check.NONE);
        Check.due("BAD by stuck at what it is", y.node(0, 7), 0);
    }

    static void foundIsNoneUntilProbed() {
        GuidedProbes x = Check.hurt(Check.with("1;N0", "01"), 102);
        Check.due("node(1, 9)", x.node(1, 9), Check.NONE);
        x.probe(1);
        Check.due("node(1, 9) of a BAD one", x.node(1, 9), 1);
        Check.due("node(0, 9)", x.node(0, 9), Check.NONE);
        x.probe(0);
        Check.due("node(0, 9) of another", x.node(0, 9), 0);
        x.forget();
        Check.due("node(1, 9) behind forget()", x.node(1, 9), Check.NONE);
    }

    static void stuckInputsDriveOthers() {
        GuidedProbes x = Check.with("2;A01;N0;D0", "0123");
        now(x, 100, 0, 0b0000);
        now(x, 100, 3, 0b1111);
        now(x, 200, 0, 0b1111);
        now(x, 200, 2, 0b1100);
        now(x, 200, 3, 0b0000);
        now(x, 200, 4, 0b1110);
    }

    static void aStuckDelayIsStuckInTick0Too() {
        GuidedProbes x = Check.with("1;D0;N1", "0000");
        now(x, 202, 1, 0b1111);
        now(x, 202, 2, 0b0000);
        GuidedProbes y = Check.with("1;D0", "1111");
        now(y, 102, 1, 0b0000);
    }

    static void anOpenPinOfADelayIs1InTheNextTick() {
        now(Check.with("1;D0", "0"), 302, 1, 0b0);
        now(Check.with("1;D0", "00"), 302, 1, 0b10);
        now(Check.with("1;D0", "1000"), 302, 1, 0b1110);
        now(Check.with("1;D1", "0000"), 302, 1, 0b1110);
    }

    static void anOpenPinIs1WhateverDrivesIt() {
        GuidedProbes x = Check.with("2;A01;O01;X01;N0", "0123");
        now(x, 304, 2, 0b1100);
        now(x, 305, 2, 0b1010);
        now(x, 306, 3, 0b1111);
        now(x, 307, 3, 0b1111);
        now(x, 308, 4, 0b0011);
        now(x, 309, 4, 0b0101);
        now(x, 310, 5, 0b0000);
    }

    static void anOpenPinIsOneOfTwoByTheSameNode() {
        GuidedProbes x = Check.with("1;X00;A00", "01");
        now(x, 0, 1, 0b00);
        now(x, 302, 1, 0b01);
        now(x, 303, 1, 0b01);
        now(x, 304, 2, 0b10);
    }

    static void anOpenPinLeavesItsDriverAndOthersAlone() {
        GuidedProbes x = Check.with("1;N0;N0", "01");
        now(x, 302, 0, 0b10);
        now(x, 302, 1, 0b00);
        now(x, 302, 2, 0b01);
    }

    static void faultsOfTheLastNode() {
        GuidedProbes x = Check.with(Check.GREATEST_BOARD, Check.ITS_STIMULUS);
        now(x, 0, 11, 0b1100);
        now(x, 122, 11, 0b0000);
        now(x, 222, 11, 0b1111);
        // INPUT 2 has 0, 1, 1, 0 and INPUT 3 has 0, 1, 0, 1.
        now(x, 322, 11, 0b0101);
        now(x, 323, 11, 0b1001);
        now(x, 323, 9, 0b1100);
    }
}
