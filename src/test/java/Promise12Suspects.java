/** Promise 12: suspects. */
public final class Promise12Suspects {
    public static void main(String[] args) {
        Check.runTestsOf(Promise12Suspects.class);
    }

    private static void are(String when, GuidedProbes x, int... want) {
        for (int what = 0; what < want.length; what++) {
            Check.due("suspects(" + what + ")" + when, x.suspects(what), want[what]);
        }
    }

    /** Just three FAULTS show here, by one NODE each: 200 by 0, 202 by 1, 204 by 2. */
    private static GuidedProbes threeApart() {
        return Check.with("2;A01", "100011101");
    }

    static void whatBelow0OrAbove4IsOutside() {
        Check.refused("suspects(-1)", x -> x.suspects(-1), Check.OUTSIDE);
        Check.refused("suspects(5)", x -> x.suspects(5), Check.OUTSIDE);
        Check.keeps("suspects(5)", GuidedProbes::new, x -> x.suspects(5), Check.OUTSIDE);
        Check.keeps("suspects(-1)", GuidedProbes::new, x -> x.suspects(-1), Check.OUTSIDE);
        for (int what : Check.FAR_NUMBERS) {
            Check.refused("suspects(" + what + ")", x -> x.suspects(what), Check.OUTSIDE);
        }
    }

    static void changesNothing() {
        int[] want = {5, 0, 1, 5, 3};
        for (int what = 0; what < want.length; what++) {
            int of = what;
            Check.keeps("suspects(" + what + ")", () -> Check.with("1;N0", "01"), x -> x.suspects(of), want[what]);
        }
    }

    static void withoutABoardThereAreNone() {
        are("", new GuidedProbes(), 0, Check.NONE, 0, 0, 0);
    }

    static void withoutTicksThereAreNone() {
        are("", Check.boardAlone(Check.GREATEST_BOARD), 0, Check.NONE, 0, 0, 0);
        are(" with a FAULT", Check.hurt(Check.boardAlone("1;N0"), 202), 0, Check.NONE, 0, 0, 0);
    }

    static void probesThatNoFaultWouldShowLeaveNone() {
        // Without FAULT no NODE is BAD, and each FAULT that shows makes NODE 1 so.
        GuidedProbes x = Check.with("1;N0", "01");
        x.probe(1);
        are(" behind probe(1)", x, 0, Check.NONE, 0, 0, 0);
        Check.due("suspect(0, 0)", x.suspect(0, 0), Check.UNKNOWN);
    }

    static void faultsByWhichNoNodeWouldBeBadAreNone() {
        // 100 and 305 make HISTORIES unlike, but no MARK.
        GuidedProbes x = threeApart();
        Check.due("shows(305, 1)", x.shows(305, 1), 4);
        are("", x, 3, 0, 2, 5, 1);
        Check.due("suspect(0, 0)", x.suspect(0, 0), 200);
        Check.due("suspect(1, 0)", x.suspect(1, 0), 202);
        Check.due("suspect(2, 0)", x.suspect(2, 0), 204);
    }

    static void faultsByWhichAProbedNodeIsNotAsFoundAreNone() {
        GuidedProbes x = Check.with("1;N0", "01");
        x.probe(0);
        are(" where 0 is not BAD", x, 3, Check.NONE, 0, 0, 3);
        x.hurt(100);
        x.probe(0);
        are(" where 0 is BAD", x, 2, Check.NONE, 0, 0, 2);
        x.probe(1);
        are(" where 1 is BAD, too", x, 2, Check.NONE, 0, 0, 2);
    }

    static void thereMayBe40() {
        // Each GATE is BAD by eight of them, each INPUT by two. NEXT are 4, 5, 6 and so on, as long as none is BAD:
        // the four of each GATE's own stay together, those of an INPUT are parted by two GATES and an INPUT.
        are("", Check.with(Check.GREATEST_BOARD, Check.ITS_STIMULUS), 40, 4, 7, 4 * (3 + 2 + 4 + 3 + 3 + 4 + 5 + 6 + 7 + 7), 4);
    }

    static void aProbeOfTheLastNodeCounts() {
        GuidedProbes x = Check.hurt(Check.with(Check.GREATEST_BOARD, Check.ITS_STIMULUS), 323);
        Check.due("probe(11)", x.probe(11), 1);
        // Four of INPUTS 2 and 3, which NEXT parts from its own four; NODE 2 parts the former.
        are(" where 11 is BAD", x, 8, 5, 2, 4 * 2 + 4 * 1, 4);
    }

    static void theLastNodeMayBeNext() {
        // NODE 10 is BAD by each three FAULTS of 10 and 11, NODE 11 by its own.
        GuidedProbes x = Check.hurt(Check.with("4" + Check.repeated(";N1", 6) + ";Nb;D0", "0101"), 120);
        x.probe(10);
        x.probe(0);
        are(" where 10 is BAD, 0 is not", x, 6, 11, 1, 6, 3);
    }

    static void oneIsNotSplit() {
        GuidedProbes x = Check.hurt(threeApart(), 200);
        x.probe(0);
        are("", x, 1, Check.NONE, 0, 0, 1);
    }

    static void ofLikeNodesNextIsTheLeast() {
        are(" of three alike", threeApart(), 3, 0);
        GuidedProbes x = threeApart();
        x.probe(0);
        are(" of 1 and 2 alike", x, 2, 1, 1, 2, 1);
        GuidedProbes y = threeApart();
        y.probe(1);
        are(" of 0 and 2 alike", y, 2, 0, 1, 2, 1);
    }

    static void nextIsTheOneWithTheLeastSquares() {
        // Of eight NODE 0 is BAD by 100, 200, NODE 1 by 102, 202, 302 also, NODE 2 by all.
        are(" by 2 and 6, 5 and 3, 8 and 0", Check.with("1;N0;N1", "01"), 8, 1, 2, 13, 3);
        // Of eight NODE 0 is BAD by two, NODE 1 by two others, NODE 2 by all.
        are(" by 2 and 6, 2 and 6, 8 and 0", Check.with("2;A01", "0123"), 8, 0, 2, 14, 4);
    }

    static void nextIsNoneWhenAllAreOnOneSide() {
        GuidedProbes x = Check.with("1;N0", "01");
        x.probe(0);
        Check.due("suspects(0)", x.suspects(0), 3);
        Check.due("all by which NODE 1 is BAD", x.suspects(1), Check.NONE);
        GuidedProbes y = Check.hurt(Check.with("2;A01", "0123"), 202);
        y.probe(1);
        Check.due("suspects(0)", y.suspects(0), 2);
        Check.due("all by which NODE 0 is not BAD", y.suspects(1), Check.NONE);
    }

    static void whenAllWereProbedNextIsNone() {
        GuidedProbes x = Check.hurt(Check.with("1;N0", "01"), 102);
        x.probe(0);
        x.probe(1);
        are("", x, 3, Check.NONE, 0, 0, 3);
    }

    static void nextIsNeverOneThatWasProbed() {
        GuidedProbes x = Check.hurt(Check.with(Check.GREATEST_BOARD, Check.ITS_STIMULUS), 323);
        int next = x.suspects(1);
        for (int probes = 0; probes < 12 && next != Check.NONE; probes++) {
            Check.due("found, of NEXT " + next, x.node(next, 9), Check.NONE);
            x.probe(next);
            next = x.suspects(1);
        }
        Check.due("NEXT in the end", next, Check.NONE);
    }

    static void stepsAndRestAreFromNowOn() {
        GuidedProbes x = threeApart();
        are("", x, 3, 0, 2, 5, 1);
        x.probe(2);
        are(" behind probe(2)", x, 2, 0, 1, 2, 1);
        x.probe(0);
        are(" behind probe(0)", x, 1, Check.NONE, 0, 0, 1);
        x.probe(1);
        are(" behind probe(1)", x, 0, Check.NONE, 0, 0, 0);
    }
}
