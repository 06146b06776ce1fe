/** Promise 16: count. */
public final class Promise16Count {
    public static void main(String[] args) {
        Check.runTestsOf(Promise16Count.class);
    }

    private static void are(String when, GuidedProbes x, int... want) {
        for (int what = 0; what < want.length; what++) {
            Check.due("count(" + what + ")" + when, x.count(what), want[what]);
        }
    }

    static void whatBelow0OrAbove9IsOutside() {
        Check.refused("count(-1)", x -> x.count(-1), Check.OUTSIDE);
        Check.refused("count(10)", x -> x.count(10), Check.OUTSIDE);
        Check.keeps("count(-1)", GuidedProbes::new, x -> x.count(-1), Check.OUTSIDE);
        Check.keeps("count(10)", GuidedProbes::new, x -> x.count(10), Check.OUTSIDE);
        for (int what : Check.FAR_NUMBERS) {
            Check.refused("count(" + what + ")", x -> x.count(what), Check.OUTSIDE);
        }
    }

    static void changesNothing() {
        int[] want = {2, 3, 4, 4, 104, 2, 14, 1, 1, 2};
        for (int what = 0; what < want.length; what++) {
            int of = what;
            Check.keeps("count(" + what + ")", Check::busy, x -> x.count(of), want[what]);
        }
    }

    static void ofANewObjectAllAre0() {
        are("", new GuidedProbes(), 0, 0, 0, 0, 0, 0, 0, 0, 0, 0);
    }

    static void theLeastThereMayBe() {
        are("", Check.with("1;N0", "0"), 1, 1, 0, 1, 0, 0, 5, 1, 1, 0);
    }

    static void theMostThereMayBe() {
        GuidedProbes x = Check.with(Check.GREATEST_BOARD, Check.repeated("0", 16));
        x.hurt(323);
        for (int node = 0; node < 12; node++) {
            x.probe(node);
        }
        Check.type(x, Check.repeated("~", 40));
        are("", x, 4, 8, 40, 16, 323, 12, 40, 1, 1, 12);
    }

    static void faultsOfABoardAreTwoOfEachNodeAndOneOfEachPin() {
        Check.due("count(6) of a N", Check.boardAlone("1;N0").count(6), 5);
        Check.due("count(6) of a D", Check.boardAlone("4;D0").count(6), 11);
        Check.due("count(6) of an A", Check.boardAlone("1;A00").count(6), 6);
        Check.due("count(6) of an O", Check.boardAlone("1;O00").count(6), 6);
        Check.due("count(6) of an X", Check.boardAlone("1;X00").count(6), 6);
        Check.due("count(6) of eight N", Check.boardAlone("4" + Check.repeated(";N0", 8)).count(6), 32);
    }

    static void refusedReadingsAreNotCounted() {
        GuidedProbes x = Check.busyWithPage("1;N1");
        x.board();
        x.stimulus();
        are(" behind refused ones", x, 2, 3, 4, 4, 104, 2, 14, 1, 1, 2);
    }

    static void refusedProbesAreNotCounted() {
        GuidedProbes x = Check.busy();
        x.probe(3);
        x.probe(5);
        Check.due("count(5)", x.count(5), 2);
        Check.due("count(9)", x.count(9), 2);
    }

    static void readingsAreCountedEver() {
        GuidedProbes x = new GuidedProbes();
        for (int often = 1; often <= 5; often++) {
            Check.type(x, "1;N0").board();
            Check.due("count(7)", x.count(7), often);
            Check.due("count(8)", x.count(8), often - 1);
            Check.type(x, "01").stimulus();
            Check.due("count(8)", x.count(8), often);
        }
    }

    static void probesAreCountedEver() {
        GuidedProbes x = Check.busy();
        x.forget();
        are(" behind forget()", x, 2, 3, 4, 4, 104, 0, 14, 1, 1, 2);
        x.probe(3);
        x.hurt(0);
        Check.due("count(9) behind hurt()", x.count(9), 3);
        x.probe(3);
        x.blank();
        Check.type(x, "0").stimulus();
        Check.due("count(9) behind stimulus()", x.count(9), 4);
        x.probe(3);
        Check.type(x, "1;N0").board();
        Check.due("count(9) behind board()", x.count(9), 5);
        Check.due("count(5)", x.count(5), 0);
    }

    static void probesOf512CallsAreCounted() {
        GuidedProbes x = Check.boardAlone("1;N0");
        // Five calls so far, 504 in pairs, three more: 512.
        for (int pair = 0; pair < 252; pair++) {
            Check.due("probe(0)", x.probe(0), 0);
            Check.due("forget()", x.forget(), 1);
        }
        Check.due("probe(1)", x.probe(1), 0);
        Check.due("count(5)", x.count(5), 1);
        Check.due("count(9)", x.count(9), 253);
    }

    static void theFaultIs0WhenItIsGone() {
        GuidedProbes x = Check.busyWithPage("2;A01;N2;D3");
        Check.due("count(4)", x.count(4), 104);
        x.board();
        Check.due("count(4) of another BOARD", x.count(4), 0);
        x.hurt(308);
        Check.due("count(4) behind hurt(308)", x.count(4), 308);
        x.hurt(0);
        Check.due("count(4) behind hurt(0)", x.count(4), 0);
    }
}
