/** Promise 11: forget. */
public final class Promise11Forget {
    public static void main(String[] args) {
        Check.runTestsOf(Promise11Forget.class);
    }

    static void withoutABoardThereWereNone() {
        Check.keeps("forget()", GuidedProbes::new, GuidedProbes::forget, 0);
    }

    static void withoutProbesThereWereNone() {
        Check.keeps("forget()", () -> Check.with("1;N0", "01"), GuidedProbes::forget, 0);
        Check.keeps("forget() behind hurt()", () -> Check.hurt(Check.busy(), 100), GuidedProbes::forget, 0);
    }

    static void allTwelveWere() {
        GuidedProbes x = Check.with(Check.GREATEST_BOARD, Check.ITS_STIMULUS);
        for (int node = 0; node < 12; node++) {
            x.probe(node);
        }
        Check.due("forget()", x.forget(), 12);
        Check.due("forget() again", x.forget(), 0);
        for (int node = 0; node < 12; node++) {
            Check.due("node(" + node + ", 9)", x.node(node, 9), Check.NONE);
        }
    }

    static void refusedProbesAreNotAmongThem() {
        GuidedProbes x = Check.busy();
        x.probe(3);
        x.probe(5);
        x.probe(-1);
        Check.due("forget()", x.forget(), 2);
    }

    static void allSuspectsAreBack() {
        GuidedProbes x = Check.hurt(Check.with("1;N0", "01"), 102);
        long before = x.digest();
        x.probe(0);
        x.probe(1);
        Check.due("suspects(0)", x.suspects(0), 3);
        Check.due("forget()", x.forget(), 2);
        Check.due("count(5)", x.count(5), 0);
        int[] want = {5, 0, 1, 5, 3};
        for (int what = 0; what < want.length; what++) {
            Check.due("suspects(" + what + ")", x.suspects(what), want[what]);
        }
        Check.due("digest(), but for PROBES ever", x.digest() - before, 2);
    }

    static void allElseStays() {
        GuidedProbes x = Check.busy();
        Check.due("forget()", x.forget(), 2);
        int[] want = {2, 3, 4, 4, 104, 0, 14, 1, 1, 2};
        for (int what = 0; what < want.length; what++) {
            Check.due("count(" + what + ")", x.count(what), want[what]);
        }
        Check.due("node(3, 7)", x.node(3, 7), 1);
        Check.due("fault(false)", x.fault(false), 4);
    }
}
