/** Promise 4: fault. */
public final class Promise04Fault {
    private static final String PINS = "0123456789ab", KINDS = "AOXND", FIGURES = "0123456789abcdef";

    public static void main(String[] args) {
        Check.runTestsOf(Promise04Fault.class);
    }

    /** Of all letters just these may come behind the ones ahead. */
    private static void letters(boolean stimulus, String ahead, String fitting) {
        for (char letter = 32; letter <= 126; letter++) {
            int want = ahead.length() + (fitting.indexOf(letter) >= 0 ? 1 : 0);
            Check.due("fault(" + stimulus + ") of " + ahead + letter, Check.typed(ahead + letter).fault(stimulus), want);
        }
    }

    private static void places(String text, int asBoard, int asStimulus) {
        Check.due("fault(false) of " + text, Check.typed(text).fault(false), asBoard);
        Check.due("fault(true) of " + text, Check.typed(text).fault(true), asStimulus);
    }

    static void anEmptyPageHasNone() {
        places("", 0, 0);
    }

    static void aBoardBeginsWith1To4Inputs() {
        letters(false, "", "1234");
    }

    static void aGateBeginsWithItsSign() {
        letters(false, "1", ";");
        letters(false, "4", ";");
        letters(false, "1;N0", ";");
        letters(false, "1;D0", ";");
        letters(false, "1;A00", ";");
    }

    static void aGateHasAKind() {
        letters(false, "1;", KINDS);
        letters(false, "1;N0;", KINDS);
        letters(false, "4" + Check.repeated(";N0", 7) + ";", KINDS);
    }

    static void notAndDelayHaveOnePin() {
        letters(false, "1;N", PINS);
        letters(false, "1;D", PINS);
        letters(false, "1;Nb", ";");
        letters(false, "1;Db", ";");
    }

    static void othersHaveTwoPins() {
        for (char kind : "AOX".toCharArray()) {
            letters(false, "1;" + kind, PINS);
            letters(false, "1;" + kind + "0", PINS);
            letters(false, "1;" + kind + "bb", ";");
        }
    }

    static void noGateComesBehindTheEighth() {
        letters(false, "1" + Check.repeated(";N0", 7), ";");
        letters(false, "1" + Check.repeated(";N0", 8), "");
        letters(false, "4" + Check.repeated(";A01", 7) + ";D0", "");
        letters(false, "4" + Check.repeated(";Abb", 7), ";");
        letters(false, "4" + Check.repeated(";Abb", 8), "");
    }

    static void whetherDriversAreThereIsNotAsked() {
        places("1;N1", 4, 1);
        places("1;N2", 4, 1);
        places("1;Nb", 4, 1);
        places("1;Db", 4, 1);
        places("1;A2b;N0", 8, 1);
        places("1;N2;N0", 7, 1);
    }

    static void aStimulusHasFigures() {
        letters(true, "", FIGURES);
        letters(true, "0", FIGURES);
        letters(true, FIGURES.substring(1), FIGURES);
    }

    static void noFigureComesBehindTheSixteenth() {
        letters(true, FIGURES, "");
        letters(true, Check.repeated("0", 16), "");
    }

    static void onlyTheFirstIsTold() {
        places("5;N0", 0, 1);
        places("1;N0?;N0?", 4, 1);
        places("1;;;", 2, 1);
        places("0g1g", 0, 1);
        places("gg", 0, 0);
        places("1;Nc0", 3, 1);
    }

    static void aFullPageIsReadToItsEnd() {
        places(Check.repeated("0", 40), 0, 16);
        places("4" + Check.repeated(";Abb", 8) + ";Abb;Ab", 33, 1);
        places(Check.repeated("~", 40), 0, 0);
    }

    static void beginningsThatAreNotWholeHaveNone() {
        places("1", 1, 1);
        places("1;", 2, 1);
        places("1;N", 3, 1);
        places("1;A0", 4, 1);
        places("1;N0;", 5, 1);
    }

    static void lettersThatAreGoneDoNotCount() {
        GuidedProbes x = Check.typed("1;N0;A");
        Check.due("fault(false)", x.fault(false), 6);
        x.blank();
        Check.due("fault(false) behind blank()", x.fault(false), 0);
        Check.type(x, "0");
        Check.due("fault(false) of 0", x.fault(false), 0);
        Check.due("fault(true) of 0", x.fault(true), 1);
    }

    static void changesNothing() {
        Check.keeps("fault(false)", Check::busy, x -> x.fault(false), 4);
        Check.keeps("fault(true)", Check::busy, x -> x.fault(true), 1);
        Check.keeps("fault(false)", () -> Check.busyWithPage("1;N0"), x -> x.fault(false), 4);
        Check.keeps("fault(true)", () -> Check.busyWithPage("01"), x -> x.fault(true), 2);
        Check.keeps("fault(false) of a new object", GuidedProbes::new, x -> x.fault(false), 0);
        GuidedProbes x = Check.typed("1;N0");
        x.fault(false);
        x.fault(true);
        Check.due("board() behind it", x.board(), 2);
    }
}
