/** Promise 3: blank. */
public final class Promise03Blank {
    public static void main(String[] args) {
        Check.runTestsOf(Promise03Blank.class);
    }

    static void anEmptyPageHad0() {
        Check.keeps("blank()", GuidedProbes::new, GuidedProbes::blank, 0);
        Check.keeps("blank()", () -> Check.busyWithPage(""), GuidedProbes::blank, 0);
    }

    static void aFullPageHad40() {
        GuidedProbes x = Check.typed(Check.repeated("0", 40));
        Check.due("blank()", x.blank(), 40);
        Check.due("count(2)", x.count(2), 0);
    }

    static void refusedLettersAreNotAmongThem() {
        GuidedProbes x = Check.typed(Check.repeated("0", 41));
        Check.due("blank() behind FULL", x.blank(), 40);
        Check.type(x, "0\n1");
        Check.due("blank() behind OUTSIDE", x.blank(), 2);
    }

    static void thePageIsEmptyThen() {
        GuidedProbes x = Check.typed("1;N0");
        Check.due("blank()", x.blank(), 4);
        Check.due("count(2)", x.count(2), 0);
        Check.due("blank() again", x.blank(), 0);
        Check.due("fault(false)", x.fault(false), 0);
        Check.due("board()", x.board(), Check.STATE);
        Check.due("letter", x.letter('0'), 1);
        Check.due("fault(true), of that letter alone", x.fault(true), 1);
        Check.due("fault(false), of that letter alone", x.fault(false), 0);
    }

    static void allElseStays() {
        GuidedProbes x = Check.busy();
        Check.due("blank()", x.blank(), 4);
        int[] want = {2, 3, 0, 4, 104, 2, 14, 1, 1, 2};
        for (int what = 0; what < want.length; what++) {
            Check.due("count(" + what + ")", x.count(what), want[what]);
        }
        Check.due("node(3, 9)", x.node(3, 9), 1);
        Check.due("node(0, 9)", x.node(0, 9), 0);
        Check.due("node(3, 5)", x.node(3, 5), 0b1111);
        Check.due("digest(), letters typed again", Check.type(x, "2;N5").digest(), Check.busy().digest());
    }
}
