/** Promise 6: stimulus. */
public final class Promise06Stimulus {
    private static final String SIXTEEN = "0123456789abcdef";

    public static void main(String[] args) {
        Check.runTestsOf(Promise06Stimulus.class);
    }

    private static void reads(String text) {
        Check.due("stimulus() of " + text, Check.typed(text).stimulus(), text.length());
        GuidedProbes x = Check.busyWithPage(text);
        Check.due("stimulus() of " + text + " as another one", x.stimulus(), text.length());
        Check.due("count(3)", x.count(3), text.length());
    }

    private static void isNone(String text) {
        Check.keeps("stimulus() of " + text, () -> Check.typed(text), GuidedProbes::stimulus, Check.STATE);
        Check.keeps("stimulus() of " + text + " as another one", () -> Check.busyWithPage(text), GuidedProbes::stimulus, Check.STATE);
    }

    static void anEmptyPageIsNone() {
        isNone("");
    }

    static void oneToSixteenTicks() {
        for (int ticks = 1; ticks <= 16; ticks++) {
            reads(SIXTEEN.substring(16 - ticks));
            reads(Check.repeated("0", ticks));
        }
    }

    static void seventeenTicksAreNone() {
        isNone(SIXTEEN + "0");
        isNone(Check.repeated("f", 17));
        isNone(Check.repeated("0", 40));
    }

    static void anyFigureIsATick() {
        for (char figure : SIXTEEN.toCharArray()) {
            reads("" + figure);
        }
    }

    static void aLetterThatIsNoFigureIsNone() {
        for (char letter = 32; letter <= 126; letter++) {
            if (SIXTEEN.indexOf(letter) < 0) {
                isNone("" + letter);
            }
        }
        for (char letter : "/:`gAF ;".toCharArray()) {
            isNone("0" + letter);
            isNone(letter + "0");
            isNone(SIXTEEN.substring(1) + letter);
        }
    }

    static void bitsOfInputsThatThereAreNotDoNothing() {
        GuidedProbes one = Check.with("1;N0", "e1f0");
        Check.due("INPUT 0 of one", one.node(0, 3), 0b0110);
        Check.due("digest(), whatever the other bits", one.digest(), Check.with("1;N0", "01f2").digest());
        GuidedProbes three = Check.with("3;N0", "8c4");
        Check.due("INPUT 0 of three", three.node(0, 3), 0b000);
        Check.due("INPUT 1 of three", three.node(1, 3), 0b000);
        Check.due("INPUT 2 of three", three.node(2, 3), 0b110);
    }

    static void bitKIsInputK() {
        GuidedProbes x = Check.with("4;N0", "1248f");
        for (int input = 0; input < 4; input++) {
            Check.due("INPUT " + input, x.node(input, 3), 16 + (1 << input));
        }
    }

    static void bitsThatWereNoInputsAreOnesOfAnotherBoard() {
        GuidedProbes x = Check.with("1;N0", "8000");
        Check.type(x, "4;N3").board();
        Check.due("INPUT 3", x.node(3, 3), 0b0001);
    }

    static void anotherOneIsGone() {
        GuidedProbes x = Check.with("1;N0", Check.repeated("1", 16));
        Check.due("stimulus()", Check.type(x, "1").stimulus(), 1);
        Check.due("count(3)", x.count(3), 1);
        Check.due("HISTORY of the INPUT", x.node(0, 3), 1);
        Check.due("MARK of the INPUT", x.node(0, 4), 1);
        Check.due("shows(102, 1)", x.shows(102, 1), 0);
        Check.due("digest(), but for how often", x.digest() - Check.with("1;N0", "1").digest(), 31);
    }

    static void nothingIsProbedAnyMore() {
        GuidedProbes x = Check.busyWithPage("0123");
        Check.due("stimulus()", x.stimulus(), 4);
        Check.due("count(5)", x.count(5), 0);
        for (int node = 0; node < 5; node++) {
            Check.due("node(" + node + ", 9)", x.node(node, 9), Check.NONE);
        }
        Check.due("suspects(0)", x.suspects(0), Check.with("2;A01;N2;D3", "0123").suspects(0));
        Check.due("probe(3)", x.probe(3), 1);
        Check.due("forget()", x.forget(), 1);
    }

    static void theFaultStays() {
        GuidedProbes x = Check.busyWithPage("33");
        Check.due("stimulus()", x.stimulus(), 2);
        Check.due("count(4)", x.count(4), 104);
        Check.due("HISTORY GOOD of the A", x.node(2, 3), 0b11);
        Check.due("HISTORY NOW of the A", x.node(2, 5), 0b00);
        Check.due("FIRST of the A", x.node(2, 8), 0);
        Check.due("hurt(0)", x.hurt(0), 104);
    }

    static void thePageIsEmptyThen() {
        GuidedProbes x = Check.typed("01");
        Check.due("stimulus()", x.stimulus(), 2);
        Check.due("count(2)", x.count(2), 0);
        Check.due("fault(true)", x.fault(true), 0);
        Check.due("stimulus() again", x.stimulus(), Check.STATE);
        Check.due("letter", x.letter('1'), 1);
    }

    static void itNeedsNoBoard() {
        GuidedProbes x = Check.typed("0123");
        Check.due("stimulus()", x.stimulus(), 4);
        Check.due("count(3)", x.count(3), 4);
        Check.due("count(8)", x.count(8), 1);
        Check.due("suspects(0)", x.suspects(0), 0);
        Check.due("board()", Check.type(x, "2;A01").board(), 3);
        Check.due("HISTORY of the A", x.node(2, 3), 0b1000);
        Check.due("digest()", x.digest(), Check.with("2;A01", "0123").digest());
    }

    static void aTextThatIsBothIsReadAsAsked() {
        GuidedProbes x = Check.typed("1");
        Check.due("board()", x.board(), Check.STATE);
        Check.due("stimulus()", x.stimulus(), 1);
    }
}
