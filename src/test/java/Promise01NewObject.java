/** Promise 1: no BOARD, no STIMULUS (no TICKS). */
public final class Promise01NewObject {
    public static void main(String[] args) {
        Check.runTestsOf(Promise01NewObject.class);
    }

    static void hasNoNodes() {
        GuidedProbes x = new GuidedProbes();
        Check.due("count(0)", x.count(0), 0);
        Check.due("count(1)", x.count(1), 0);
        for (int node = 0; node < 12; node++) {
            Check.due("node(" + node + ", 0)", x.node(node, 0), Check.UNKNOWN);
            Check.due("node(" + node + ", 9)", x.node(node, 9), Check.UNKNOWN);
            Check.due("probe(" + node + ")", x.probe(node), Check.UNKNOWN);
            Check.due("way(" + node + ", 0)", x.way(node, 0), Check.UNKNOWN);
            Check.due("place(" + node + ")", x.place(node), Check.UNKNOWN);
        }
    }

    static void hasNoFaults() {
        GuidedProbes x = new GuidedProbes();
        Check.due("count(6)", x.count(6), 0);
        for (int fault = 100; fault < 400; fault += 100) {
            Check.due("shows(" + fault + ", 0)", x.shows(fault, 0), Check.UNKNOWN);
            Check.due("hurt(" + fault + ")", x.hurt(fault), Check.UNKNOWN);
        }
        Check.due("hurt(0)", x.hurt(0), 0);
        Check.due("count(4)", x.count(4), 0);
    }

    static void hasNoTicks() {
        Check.due("count(3)", new GuidedProbes().count(3), 0);
        GuidedProbes x = Check.boardAlone("1;N0");
        Check.due("count(3) with a BOARD", x.count(3), 0);
        Check.due("HISTORY of a N", x.node(1, 3), 0);
    }

    static void hasNoLetters() {
        Check.due("count(2)", new GuidedProbes().count(2), 0);
        Check.due("blank()", new GuidedProbes().blank(), 0);
        Check.due("board()", new GuidedProbes().board(), Check.STATE);
        Check.due("stimulus()", new GuidedProbes().stimulus(), Check.STATE);
    }

    static void hasNoSuspects() {
        GuidedProbes x = new GuidedProbes();
        int[] want = {0, Check.NONE, 0, 0, 0};
        for (int what = 0; what < want.length; what++) {
            Check.due("suspects(" + what + ")", x.suspects(what), want[what]);
        }
        Check.due("suspect(0, 0)", x.suspect(0, 0), Check.UNKNOWN);
    }

    static void hasCountedNothing() {
        GuidedProbes x = new GuidedProbes();
        GuidedProbes second = new GuidedProbes();
        for (int what = 0; what <= 9; what++) {
            Check.due("count(" + what + ")", x.count(what), 0);
            Check.due("count(" + what + ") of a second one", second.count(what), 0);
        }
        Check.due("forget()", x.forget(), 0);
    }

    static void sharesNothingWithOthers() {
        long alone = new GuidedProbes().digest();
        GuidedProbes old = Check.busy();
        GuidedProbes x = new GuidedProbes();
        Check.due("digest() of a new one beside another", x.digest(), alone);
        long before = old.digest();
        Check.type(x, "1;N0").board();
        Check.type(x, "01").stimulus();
        Check.due("digest() of the other behind that", old.digest(), before);
    }
}
