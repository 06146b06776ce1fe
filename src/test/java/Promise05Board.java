/** Promise 5: board. */
public final class Promise05Board {
    private static final String[] KINDS_BUT_DELAY = {"A", "O", "X", "N"};

    public static void main(String[] args) {
        Check.runTestsOf(Promise05Board.class);
    }

    private static void reads(String text, int nodes) {
        Check.due("board() of " + text, Check.typed(text).board(), nodes);
        Check.due("board() of " + text + " as another one", Check.busyWithPage(text).board(), nodes);
    }

    private static void isNone(String text) {
        Check.keeps("board() of " + text, () -> Check.typed(text), GuidedProbes::board, Check.STATE);
        Check.keeps("board() of " + text + " as another one", () -> Check.busyWithPage(text), GuidedProbes::board, Check.STATE);
    }

    /** A GATE with the driver at each of its PINS in turn, INPUT 0 at the other one. */
    private static String[] gates(String kind, String driver) {
        boolean hasOnePin = kind.equals("N") || kind.equals("D");
        return hasOnePin ? new String[] {kind + driver} : new String[] {kind + driver + "0", kind + "0" + driver};
    }

    static void anEmptyPageIsNone() {
        isNone("");
    }

    static void a0OrA5AreNoInputs() {
        isNone("0;N0");
        isNone("5;N0");
        isNone("9;N0");
        isNone(";N0");
    }

    static void oneToFourInputs() {
        reads("1;N0", 2);
        reads("2;N0", 3);
        reads("3;N0", 4);
        reads("4;N0", 5);
    }

    static void noGateIsNone() {
        isNone("1");
        isNone("4");
        isNone("1;");
    }

    static void oneToEightGates() {
        for (int gates = 1; gates <= 8; gates++) {
            reads("1" + Check.repeated(";N0", gates), 1 + gates);
            reads("4" + Check.repeated(";A01", gates), 4 + gates);
        }
    }

    static void nineGatesAreNone() {
        isNone("1" + Check.repeated(";N0", 9));
        isNone("4" + Check.repeated(";A01", 9));
        isNone("1" + Check.repeated(";N0", 8) + ";");
    }

    static void aTextThatIsNotWholeIsNone() {
        isNone("1;N");
        isNone("1;D");
        isNone("1;A");
        isNone("1;A0");
        isNone("1;O0");
        isNone("1;X0");
        isNone("1;N0;");
        isNone("1;N0;A0");
    }

    static void aTextWithMoreIsNone() {
        isNone("1;N00");
        isNone("1;A000");
        isNone("1;N0 ");
        isNone(" 1;N0");
        isNone("11;N0");
    }

    static void aFullPageOfGatesIsNone() {
        isNone(Check.repeated("1;N0", 10));
        isNone("4" + Check.repeated(";A01", 9) + ";N0");
    }

    static void aPinThatIsNoFigureIsNone() {
        isNone("1;Nc");
        isNone("1;Nf");
        isNone("1;A0c");
        isNone("1;Dc");
        isNone("1;NB");
    }

    static void aDriverThatIsNotThereIsNone() {
        for (String kind : new String[] {"A", "O", "X", "N", "D"}) {
            for (String driver : new String[] {"3", "9", "a", "b"}) {
                for (String gate : gates(kind, driver)) {
                    isNone("1;" + gate + ";D0");
                    isNone("1;D0;" + gate);
                }
            }
        }
        isNone("4" + Check.repeated(";N0", 6) + ";Db");
        isNone("1" + Check.repeated(";N0", 7) + ";D9");
    }

    static void theLastNodeIsThere() {
        reads("4" + Check.repeated(";N0", 7) + ";Db", 12);
        reads("4;Db" + Check.repeated(";N0", 7), 12);
        reads("4;Nb" + Check.repeated(";N0", 6) + ";D0", 12);
        reads("4" + Check.repeated(";N0", 7) + ";Na", 12);
        reads("1" + Check.repeated(";N0", 7) + ";D8", 9);
    }

    static void inputsMayDriveAll() {
        for (String kind : new String[] {"A", "O", "X", "N", "D"}) {
            for (String gate : gates(kind, "0")) {
                reads("1;" + gate, 2);
            }
            for (String gate : gates(kind, "3")) {
                reads("4;" + gate, 5);
            }
        }
    }

    static void gatesAheadMayDriveAll() {
        for (String kind : new String[] {"A", "O", "X", "N", "D"}) {
            for (String gate : gates(kind, "1")) {
                reads("1;N0;" + gate, 3);
                reads("1;D0;" + gate, 3);
            }
        }
    }

    static void gatesBehindMayNotDriveOthersThanDelays() {
        for (String kind : KINDS_BUT_DELAY) {
            for (String gate : gates(kind, "2")) {
                isNone("1;" + gate + ";N0");
                isNone("1;" + gate + ";A00");
                isNone("1;" + gate + ";O00");
                isNone("1;" + gate + ";X00");
            }
        }
    }

    static void noGateButADelayMayDriveItself() {
        for (String kind : KINDS_BUT_DELAY) {
            for (String gate : gates(kind, "1")) {
                isNone("1;" + gate);
            }
        }
        reads("1;D1", 2);
    }

    static void delaysBehindMayDriveAll() {
        for (String kind : new String[] {"A", "O", "X", "N", "D"}) {
            for (String gate : gates(kind, "2")) {
                reads("1;" + gate + ";D0", 3);
                reads("1;" + gate + ";D1", 3);
            }
        }
    }

    static void anyNodeMayDriveADelay() {
        for (String gate : new String[] {"A00", "O00", "X00", "N0", "D0"}) {
            reads("1;D2;" + gate, 3);
        }
    }

    static void aWrongDriverOfTheLastGateIsSeen() {
        isNone("4" + Check.repeated(";A01", 7) + ";A0b");
        isNone("4" + Check.repeated(";A01", 7) + ";Ab0");
        isNone("4" + Check.repeated(";A01", 7) + ";Nb");
    }

    static void anotherOneIsGone() {
        GuidedProbes x = Check.with(Check.GREATEST_BOARD, Check.ITS_STIMULUS);
        Check.due("board()", Check.type(x, "1;N0").board(), 2);
        Check.due("count(0)", x.count(0), 1);
        Check.due("count(1)", x.count(1), 1);
        Check.due("count(6)", x.count(6), 5);
        for (int node = 2; node < 12; node++) {
            Check.due("node(" + node + ", 0)", x.node(node, 0), Check.UNKNOWN);
            Check.due("probe(" + node + ")", x.probe(node), Check.UNKNOWN);
            Check.due("hurt", x.hurt(100 + 2 * node), Check.UNKNOWN);
        }
        Check.due("node(1, 2)", x.node(1, 2), Check.NONE);
        Check.due("suspects(0)", x.suspects(0), 5);
        Check.due("shows(200, 1)", x.shows(200, 1), 3);
    }

    static void anotherOneWithMoreInputsIsGone() {
        GuidedProbes x = Check.boardAlone("1;D1;D2;A01");
        Check.due("board()", Check.type(x, "4;N3").board(), 5);
        for (int node = 0; node < 4; node++) {
            Check.due("kind of " + node, x.node(node, 0), 0);
            Check.due("PIN 0 of " + node, x.node(node, 1), Check.NONE);
            Check.due("PIN 1 of " + node, x.node(node, 2), Check.NONE);
        }
        Check.due("kind of 4", x.node(4, 0), 4);
    }

    static void itHasNoFault() {
        GuidedProbes x = Check.busyWithPage("2;A01;N2;D3");
        Check.due("board()", x.board(), 5);
        Check.due("count(4)", x.count(4), 0);
        for (int node = 0; node < 5; node++) {
            Check.due("HISTORY NOW of " + node, x.node(node, 5), x.node(node, 3));
            Check.due("MARK NOW of " + node, x.node(node, 6), x.node(node, 4));
            Check.due("BAD of " + node, x.node(node, 7), 0);
            Check.due("FIRST of " + node, x.node(node, 8), Check.NONE);
            Check.due("place(" + node + ")", x.place(node), Check.NONE);
        }
        Check.due("hurt(100)", x.hurt(100), 0);
    }

    static void nothingIsProbed() {
        GuidedProbes x = Check.busyWithPage("2;A01;N2;D3");
        Check.due("board()", x.board(), 5);
        Check.due("count(5)", x.count(5), 0);
        for (int node = 0; node < 5; node++) {
            Check.due("node(" + node + ", 9)", x.node(node, 9), Check.NONE);
        }
        Check.due("suspects(0)", x.suspects(0), Check.with("2;A01;N2;D3", "0123").suspects(0));
        Check.due("probe(3)", x.probe(3), 0);
        Check.due("forget()", x.forget(), 1);
    }

    static void thePageIsEmptyThen() {
        GuidedProbes x = Check.boardAlone("1;N0");
        Check.due("count(2)", x.count(2), 0);
        Check.due("fault(false)", x.fault(false), 0);
        Check.due("board() again", x.board(), Check.STATE);
        Check.due("letter", x.letter('1'), 1);
        Check.due("fault(false) of 1", x.fault(false), 1);
    }

    static void theStimulusAndWhatWasCountedStay() {
        GuidedProbes x = Check.busyWithPage("1;N0");
        Check.due("board()", x.board(), 2);
        Check.due("count(3)", x.count(3), 4);
        Check.due("HISTORY of the INPUT", x.node(0, 3), 0b1010);
        Check.due("HISTORY of the N", x.node(1, 3), 0b0101);
        Check.due("count(7)", x.count(7), 2);
        Check.due("count(8)", x.count(8), 1);
        Check.due("count(9)", x.count(9), 2);
    }
}
