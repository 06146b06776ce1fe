/** Promises 1 to 17, each by answers worked out by hand from the document. */
public final class PromiseTests {
    private static final int NONE = -1, UNKNOWN = -1001, OUTSIDE = -1002, STATE = -1003, FULL = -1004;
    private static int wrong = 0;
    private static String promise = "";

    public static void main(String[] args) {
        newObject();
        letter();
        blank();
        fault();
        board();
        boardDrivers();
        boardBehindOthers();
        stimulus();
        hurt();
        nodeOfGates();
        nodeOfDelays();
        nodeOfMarks();
        nodeByFaults();
        shows();
        probe();
        forget();
        suspects();
        suspectsOfLikeSplits();
        suspectsOfProbes();
        suspect();
        wayOfLoops();
        wayOfChoices();
        place();
        count();
        digest();
        refusals();
        System.out.println(wrong == 0 ? "all promises hold" : wrong + " answers are not as due");
        if (wrong != 0) {
            System.exit(1);
        }
    }

    private static void due(String call, long got, long want) {
        if (got != want) {
            wrong++;
            System.out.println("promise " + promise + ": " + call + " answered " + got + ", due is " + want);
        }
    }

    private static void type(GuidedProbes x, String text) {
        for (int i = 0; i < text.length(); i++) {
            x.letter(text.charAt(i));
        }
    }

    private static GuidedProbes with(String board, String stimulus) {
        GuidedProbes x = new GuidedProbes();
        type(x, board);
        if (x.board() < 0) {
            due("board() of " + board, STATE, 0);
        }
        type(x, stimulus);
        due("stimulus() of " + stimulus, x.stimulus(), stimulus.length());
        return x;
    }

    private static String repeated(String text, int times) {
        StringBuilder all = new StringBuilder();
        for (int i = 0; i < times; i++) {
            all.append(text);
        }
        return all.toString();
    }

    private static void newObject() {
        promise = "1";
        GuidedProbes x = new GuidedProbes();
        for (int what = 0; what <= 9; what++) {
            due("count(" + what + ")", x.count(what), 0);
        }
        for (int node = -1; node <= 12; node++) {
            due("node(" + node + ", 0)", x.node(node, 0), UNKNOWN);
            due("probe(" + node + ")", x.probe(node), UNKNOWN);
            due("way(" + node + ", 0)", x.way(node, 0), UNKNOWN);
            due("place(" + node + ")", x.place(node), UNKNOWN);
        }
        due("shows(100, 0)", x.shows(100, 0), UNKNOWN);
        due("hurt(0)", x.hurt(0), 0);
        due("hurt(100)", x.hurt(100), UNKNOWN);
        due("forget()", x.forget(), 0);
        due("blank()", x.blank(), 0);
        due("fault(false)", x.fault(false), 0);
        due("fault(true)", x.fault(true), 0);
        due("board()", x.board(), STATE);
        due("stimulus()", x.stimulus(), STATE);
        due("suspects(0)", x.suspects(0), 0);
        due("suspects(1)", x.suspects(1), NONE);
        for (int what = 2; what <= 4; what++) {
            due("suspects(" + what + ")", x.suspects(what), 0);
        }
        due("suspect(0, 0)", x.suspect(0, 0), UNKNOWN);
        due("digest()", x.digest(), digestOf(x, ""));
    }

    private static void letter() {
        promise = "2";
        GuidedProbes x = new GuidedProbes();
        due("letter(31)", x.letter(31), OUTSIDE);
        due("letter(127)", x.letter(127), OUTSIDE);
        due("letter(MIN)", x.letter(Integer.MIN_VALUE), OUTSIDE);
        due("letter(MAX)", x.letter(Integer.MAX_VALUE), OUTSIDE);
        due("count(2)", x.count(2), 0);
        due("letter(32)", x.letter(32), 1);
        due("letter(126)", x.letter(126), 2);
        for (int i = 3; i <= 40; i++) {
            due("letter " + i, x.letter('0'), i);
        }
        due("letter 41", x.letter('0'), FULL);
        due("letter 41, outside", x.letter(31), OUTSIDE);
        due("count(2)", x.count(2), 40);
    }

    private static void blank() {
        promise = "3";
        GuidedProbes x = new GuidedProbes();
        type(x, "2;A01");
        due("blank()", x.blank(), 5);
        due("blank()", x.blank(), 0);
        due("count(2)", x.count(2), 0);
        due("letter", x.letter('1'), 1);
        GuidedProbes y = with("1;N0", "01");
        y.hurt(100);
        y.probe(0);
        y.blank();
        due("count(1)", y.count(1), 1);
        due("count(3)", y.count(3), 2);
        due("count(4)", y.count(4), 100);
        due("count(5)", y.count(5), 1);
    }

    private static void misfits(String text, int asBoard, int asStimulus) {
        GuidedProbes x = new GuidedProbes();
        type(x, text);
        due("fault(false) of " + text, x.fault(false), asBoard);
        due("fault(true) of " + text, x.fault(true), asStimulus);
        due("count(2) behind it", x.count(2), text.length());
    }

    private static void fault() {
        promise = "4";
        misfits("", 0, 0);
        misfits("0", 0, 1);
        misfits("1", 1, 1);
        misfits("4", 1, 1);
        misfits("5", 0, 1);
        misfits(";", 0, 0);
        misfits("11", 1, 2);
        misfits("1;", 2, 1);
        misfits("1;;", 2, 1);
        misfits("1;a", 2, 1);
        misfits("1;B", 2, 1);
        misfits("1;N", 3, 1);
        misfits("1;N;", 3, 1);
        misfits("1;N0", 4, 1);
        misfits("1;N00", 4, 1);
        misfits("1;D9;", 5, 1);
        misfits("1;A0;", 4, 1);
        misfits("1;O00", 5, 1);
        misfits("1;X000", 5, 1);
        misfits("1;Nb", 4, 1);
        misfits("1;Nc", 3, 1);
        misfits("1;NA", 3, 1);
        misfits("1;Aab", 5, 1);
        misfits("4" + repeated(";Abb", 8), 33, 1);
        misfits("4" + repeated(";Abb", 8) + ";", 33, 1);
        misfits("4" + repeated(";Nb", 8) + ";N0", 25, 1);
        misfits("0123456789abcdef", 0, 16);
        misfits("0123456789abcdef0", 0, 16);
        misfits("fg", 0, 1);
        misfits("F", 0, 0);
        misfits("0/", 0, 1);
        misfits("0:", 0, 1);
        misfits("0`", 0, 1);
        misfits(" 1", 0, 0);
    }

    private static void reads(String text, int want) {
        GuidedProbes x = new GuidedProbes();
        type(x, text);
        due("board() of " + text, x.board(), want);
        due("letters left of " + text, x.count(2), want < 0 ? text.length() : 0);
        due("boards read, " + text, x.count(7), want < 0 ? 0 : 1);
        due("nodes, " + text, x.count(0) + x.count(1), want < 0 ? 0 : want);
    }

    private static void board() {
        promise = "5";
        reads("1", STATE);
        reads("1;", STATE);
        reads("1;N", STATE);
        reads("1;A0", STATE);
        reads("1;N0;", STATE);
        reads("1;N0x", STATE);
        reads("1;N0", 2);
        reads("4;X03", 5);
        reads("4" + repeated(";N0", 8), 12);
        reads("4" + repeated(";N0", 9), STATE);
        GuidedProbes x = with("2;A01", "0123");
        x.hurt(100);
        x.probe(0);
        type(x, "1;N0");
        due("board()", x.board(), 2);
        due("FAULT", x.count(4), 0);
        due("PROBED", x.count(5), 0);
        due("PROBED, node", x.node(0, 9), NONE);
        due("PROBED ever", x.count(9), 1);
        due("TICKS", x.count(3), 4);
        due("HISTORY by the STIMULUS there is", x.node(1, 3), 5);
        due("INPUTS", x.count(0), 1);
        due("FAULTS", x.count(6), 5);
        due("SUSPECTS", x.suspects(0), 5);
    }

    private static void boardDrivers() {
        reads("1;N1", STATE);
        reads("1;N2;N0", STATE);
        reads("1;N2;D0", 3);
        reads("1;A02;D1", 3);
        reads("1;A20;N0", STATE);
        reads("1;A02;N0", STATE);
        reads("1;N0;N1", 3);
        reads("1;D1", 2);
        reads("1;D2;N0", 3);
        reads("1;D2;D1", 3);
        reads("1;D2", STATE);
        reads("1;Db", STATE);
        reads("3;D4", STATE);
        reads("1;A03;N0;D2", 4);
        reads("4" + repeated(";N0", 7) + ";Nb", STATE);
        reads("4" + repeated(";N0", 7) + ";Na", 12);
        reads("4" + repeated(";N0", 7) + ";Db", 12);
    }

    /** Nothing of a text or BOARD that is gone may be left in the next one. */
    private static void boardBehindOthers() {
        GuidedProbes x = new GuidedProbes();
        type(x, "1;N0;N0");
        x.blank();
        type(x, "1;N0");
        due("board() where a longer text was", x.board(), 2);
        type(x, "1;D1;D2");
        due("board()", x.board(), 3);
        type(x, "3;N1");
        due("board() of more INPUTS", x.board(), 4);
        due("kind of 1", x.node(1, 0), 0);
        due("kind of 2", x.node(2, 0), 0);
        due("kind of 3", x.node(3, 0), 4);
        due("driver of 1", x.node(1, 1), NONE);
        type(x, "1;D1;D2");
        due("fault(false)", x.fault(false), 7);
        x.blank();
        type(x, "2;N");
        due("board() that is not whole", x.board(), STATE);
        due("kind of 1", x.node(1, 0), 0);
        due("nodes", x.count(0) + x.count(1), 4);
    }

    private static void stimulus() {
        promise = "6";
        GuidedProbes x = with("1;N0", "01");
        x.hurt(102);
        x.probe(1);
        type(x, "0g");
        due("stimulus() of 0g", x.stimulus(), STATE);
        due("PROBED", x.count(5), 1);
        due("blank()", x.blank(), 2);
        type(x, "0123456789abcdef");
        due("stimulus()", x.stimulus(), 16);
        due("letters", x.count(2), 0);
        due("STIMULI", x.count(8), 2);
        due("PROBED", x.count(5), 0);
        due("node(1, 9)", x.node(1, 9), NONE);
        due("FAULT", x.count(4), 102);
        due("HISTORY GOOD 0", x.node(0, 3), 0xaaaa);
        due("HISTORY GOOD 1", x.node(1, 3), 0x5555);
        due("HISTORY NOW 1", x.node(1, 5), 0);
        type(x, "1");
        due("stimulus()", x.stimulus(), 1);
        due("HISTORY GOOD 0", x.node(0, 3), 1);
        type(x, "01234567890123456");
        due("stimulus() of 17", x.stimulus(), STATE);
        due("TICKS", x.count(3), 1);
        due("blank()", x.blank(), 17);
        type(x, "01");
        due("stimulus() where a longer text was", x.stimulus(), 2);
        due("HISTORY GOOD 0", x.node(0, 3), 0b10);
        GuidedProbes y = with("4;N0", "124865");
        due("INPUT 0", y.node(0, 3), 0b100001);
        due("INPUT 1", y.node(1, 3), 0b010010);
        due("INPUT 2", y.node(2, 3), 0b110100);
        due("INPUT 3", y.node(3, 3), 0b001000);
    }

    private static void hurt() {
        promise = "7";
        GuidedProbes x = with("2;A01;N2;D3", "0123");
        int[] faults = {100, 102, 104, 106, 108, 200, 202, 204, 206, 208, 304, 305, 306, 308};
        int had = 0;
        int at = 0;
        for (int fault = -400; fault <= 500; fault++) {
            if (fault == 0) {
                continue;
            }
            boolean is = at < faults.length && faults[at] == fault;
            due("hurt(" + fault + ")", x.hurt(fault), is ? had : UNKNOWN);
            if (is) {
                had = fault;
                at++;
            }
            due("FAULT", x.count(4), had);
        }
        x.probe(0);
        due("hurt(301)", x.hurt(301), UNKNOWN);
        due("PROBED", x.count(5), 1);
        due("hurt(308)", x.hurt(308), 308);
        due("PROBED", x.count(5), 0);
        x.probe(0);
        due("hurt(0)", x.hurt(0), 308);
        due("PROBED", x.count(5), 0);
        due("FAULT", x.count(4), 0);
        due("hurt(MIN)", x.hurt(Integer.MIN_VALUE), UNKNOWN);
        due("hurt(MAX)", x.hurt(Integer.MAX_VALUE), UNKNOWN);
    }

    private static void nodeOfGates() {
        promise = "8";
        GuidedProbes x = with("2;A01;O01;X10;N0;D1", "0123");
        int[][] want = {
            {0, NONE, NONE, 0b1010, 5}, {0, NONE, NONE, 0b1100, 3}, {1, 0, 1, 0b1000, 1},
            {2, 0, 1, 0b1110, 7}, {3, 1, 0, 0b0110, 6}, {4, 0, NONE, 0b0101, 10}, {5, 1, NONE, 0b1000, 1}};
        for (int node = 0; node < want.length; node++) {
            for (int what = 0; what < 5; what++) {
                due("node(" + node + ", " + what + ")", x.node(node, what), want[node][what]);
            }
            due("node(" + node + ", 5)", x.node(node, 5), want[node][3]);
            due("node(" + node + ", 6)", x.node(node, 6), want[node][4]);
            due("node(" + node + ", 7)", x.node(node, 7), 0);
            due("node(" + node + ", 8)", x.node(node, 8), NONE);
            due("node(" + node + ", 9)", x.node(node, 9), NONE);
        }
        due("node(7, 0)", x.node(7, 0), UNKNOWN);
        due("node(-1, 0)", x.node(-1, 0), UNKNOWN);
        due("node(MIN, 0)", x.node(Integer.MIN_VALUE, 0), UNKNOWN);
        due("node(MAX, 0)", x.node(Integer.MAX_VALUE, 0), UNKNOWN);
        due("node(0, 10)", x.node(0, 10), OUTSIDE);
        due("node(0, -1)", x.node(0, -1), OUTSIDE);
        due("node(7, 10)", x.node(7, 10), UNKNOWN);
    }

    private static void nodeOfDelays() {
        // A chain of Ds told from its end: each must take what was so in the TICK ahead, not in this one.
        GuidedProbes x = with("1;D2;D3;D0;D3", "10010");
        due("INPUT", x.node(0, 3), 0b01001);
        due("D by the INPUT", x.node(3, 3), 0b10010);
        due("second D", x.node(2, 3), 0b00100);
        due("third D", x.node(1, 3), 0b01000);
        due("D behind its driver", x.node(4, 3), 0b00100);
        // N and D that feed back: 1, 0, 1, 0.
        GuidedProbes y = with("1;N2;D1", "0000");
        due("N of a D behind it", y.node(1, 3), 0b0101);
        due("D of that N", y.node(2, 3), 0b1010);
        due("D of itself", with("1;D1", "fff").node(1, 3), 0);
        due("no STIMULUS", boardAlone("1;N0").node(1, 3), 0);
        due("no STIMULUS, MARK", boardAlone("1;N0").node(1, 4), 0);
    }

    private static GuidedProbes boardAlone(String text) {
        GuidedProbes x = new GuidedProbes();
        type(x, text);
        x.board();
        return x;
    }

    private static void nodeOfMarks() {
        // Nine TICKS that spell 256 + 29 fold into 0, which is the MARK of no bit at all.
        GuidedProbes x = with("1;D0", "100011101");
        due("HISTORY", x.node(0, 3), 369);
        due("MARK", x.node(0, 4), 0);
        due("HISTORY of D", x.node(1, 3), 226);
        due("MARK of D", x.node(1, 4), 0x8e);
        x.hurt(100);
        due("HISTORY NOW", x.node(0, 5), 0);
        due("MARK NOW", x.node(0, 6), 0);
        due("BAD", x.node(0, 7), 0);
        due("FIRST", x.node(0, 8), 0);
        due("BAD of D", x.node(1, 7), 1);
        due("FIRST of D", x.node(1, 8), 1);
        due("MARK of 128", with("1;N0", "10000000").node(0, 4), 128);
        due("MARK of 128 and one more", with("1;N0", "100000000").node(0, 4), 29);
        due("MARK of 128 and a bit more", with("1;N0", "100000001").node(0, 4), 28);
        due("MARK of 127 and one more", with("1;N0", "01111111").node(0, 4), 127);
        due("MARK of 127 and two more", with("1;N0", "011111110").node(0, 4), 254);
    }

    private static void nodeByFaults() {
        GuidedProbes x = with("2;A01;O01;X10;N0;D1", "0123");
        nowAt(x, 100, 0, 0b0000);
        nowAt(x, 100, 2, 0b0000);
        nowAt(x, 100, 4, 0b1100);
        nowAt(x, 100, 5, 0b1111);
        nowAt(x, 200, 5, 0b0000);
        nowAt(x, 202, 6, 0b1110);
        nowAt(x, 206, 3, 0b1111);
        nowAt(x, 206, 4, 0b0110);
        nowAt(x, 112, 6, 0b0000);
        nowAt(x, 212, 6, 0b1111);
        nowAt(x, 304, 2, 0b1100);
        nowAt(x, 304, 0, 0b1010);
        nowAt(x, 305, 2, 0b1010);
        nowAt(x, 306, 3, 0b1111);
        nowAt(x, 308, 4, 0b0101);
        nowAt(x, 309, 4, 0b0011);
        nowAt(x, 310, 5, 0b0000);
        nowAt(x, 312, 6, 0b1110);
        nowAt(x, 312, 1, 0b1100);
        due("FIRST by 312", x.node(6, 8), 1);
        due("FIRST of a NODE that is as it was", x.node(1, 8), NONE);
        due("MARK NOW by 312", x.node(6, 6), 7);
        due("BAD by 312", x.node(6, 7), 1);
        due("PROBED by 312", x.probe(6), 1);
        due("found by 312", x.node(6, 9), 1);
        due("PROBED by 312", x.probe(5), 0);
        due("found by 312", x.node(5, 9), 0);
        due("found by 312", x.node(4, 9), NONE);
    }

    private static void nowAt(GuidedProbes x, int fault, int node, int history) {
        x.hurt(fault);
        due("HISTORY NOW of " + node + " by " + fault, x.node(node, 5), history);
    }

    private static void shows() {
        promise = "9";
        GuidedProbes x = with("1;D0", "100011101");
        due("shows(100, 0)", x.shows(100, 0), 2);
        due("shows(100, 1)", x.shows(100, 1), 3);
        due("shows(102, 0)", x.shows(102, 0), 2);
        due("shows(302, 0)", x.shows(302, 0), 2);
        GuidedProbes y = with("1;N0", "01");
        int[][] want = {{100, 3}, {102, 2}, {200, 3}, {202, 2}, {302, 2}};
        for (int[] row : want) {
            due("shows(" + row[0] + ", 0)", y.shows(row[0], 0), row[1]);
            due("shows(" + row[0] + ", 1)", y.shows(row[0], 1), row[1]);
        }
        y.hurt(102);
        due("shows(100, 0), whatever the BOARD HAS", y.shows(100, 0), 3);
        due("shows(0, 0)", y.shows(0, 0), UNKNOWN);
        due("shows(101, 0)", y.shows(101, 0), UNKNOWN);
        due("shows(104, 0)", y.shows(104, 0), UNKNOWN);
        due("shows(300, 0)", y.shows(300, 0), UNKNOWN);
        due("shows(303, 0)", y.shows(303, 0), UNKNOWN);
        due("shows(-100, 0)", y.shows(-100, 0), UNKNOWN);
        due("shows(100, 2)", y.shows(100, 2), OUTSIDE);
        due("shows(100, -1)", y.shows(100, -1), OUTSIDE);
        due("shows(0, 2)", y.shows(0, 2), UNKNOWN);
        due("shows(100, 1) of no TICKS", boardAlone("1;N0").shows(100, 1), 0);
    }

    private static void probe() {
        promise = "10";
        GuidedProbes x = with("1;N0", "01");
        x.hurt(102);
        due("probe(2)", x.probe(2), UNKNOWN);
        due("probe(-1)", x.probe(-1), UNKNOWN);
        due("PROBED", x.count(5), 0);
        due("probe(0)", x.probe(0), 0);
        due("probe(0)", x.probe(0), STATE);
        due("probe(1)", x.probe(1), 1);
        due("probe(1)", x.probe(1), STATE);
        due("PROBED", x.count(5), 2);
        due("PROBED ever", x.count(9), 2);
        x.hurt(0);
        due("probe(1)", x.probe(1), 0);
        due("PROBED", x.count(5), 1);
        due("PROBED ever", x.count(9), 3);
        // BAD is told by MARKS: this INPUT's HISTORY is unlike, its MARK is not.
        GuidedProbes y = with("1;D0", "100011101");
        y.hurt(100);
        due("probe(0)", y.probe(0), 0);
        due("probe(1)", y.probe(1), 1);
    }

    private static void forget() {
        promise = "11";
        GuidedProbes x = with("1;N0", "01");
        x.hurt(102);
        x.probe(0);
        x.probe(1);
        due("SUSPECTS", x.suspects(0), 3);
        due("forget()", x.forget(), 2);
        due("forget()", x.forget(), 0);
        due("node(1, 9)", x.node(1, 9), NONE);
        due("SUSPECTS", x.suspects(0), 5);
        due("FAULT", x.count(4), 102);
        due("probe(1)", x.probe(1), 1);
        due("PROBED ever", x.count(9), 3);
    }

    private static void suspectsAre(GuidedProbes x, int... want) {
        for (int what = 0; what < want.length; what++) {
            due("suspects(" + what + ")", x.suspects(what), want[what]);
        }
    }

    private static void suspects() {
        promise = "12";
        // NODE 0 is BAD by 100, 200 alone, NODE 1 by all five.
        GuidedProbes x = with("1;N0", "01");
        suspectsAre(x, 5, 0, 1, 5, 3);
        due("suspects(5)", x.suspects(5), OUTSIDE);
        due("suspects(-1)", x.suspects(-1), OUTSIDE);
        // 100 and 202 show nothing here.
        suspectsAre(with("1;N0", "0"), 3, 0, 1, 3, 2);
        suspectsAre(boardAlone("1;N0"), 0, NONE, 0, 0, 0);
        // In TICK 0 only 200 (NODE 0) and 202 (NODE 1) show: each NODE parts them.
        GuidedProbes y = with("1;D0", "0");
        suspectsAre(y, 2, 0, 1, 2, 1);
        y.hurt(200);
        y.probe(0);
        suspectsAre(y, 1, NONE, 0, 0, 1);
    }

    private static void suspectsOfLikeSplits() {
        // 0 is BAD by two of eight, 1 by two others, 2 by all: 0 and 1 split alike.
        GuidedProbes x = with("2;A01", "0123");
        suspectsAre(x, 8, 0, 2, 14, 4);
        due("STEPS of 100", x.suspect(0, 2), 1);
        due("STEPS of 102", x.suspect(1, 2), 2);
        due("REST of 104", x.suspect(2, 1), 4);
        x.hurt(202);
        due("probe(1)", x.probe(1), 1);
        suspectsAre(x, 2, NONE, 0, 0, 2);
    }

    private static void suspectsOfProbes() {
        GuidedProbes x = with("2;A01", "0123");
        due("probe(1)", x.probe(1), 0);
        suspectsAre(x, 6, 0, 1, 6, 4);
        due("probe(2)", x.probe(2), 0);
        suspectsAre(x, 0, NONE, 0, 0, 0);
        x.hurt(100);
        due("probe(0)", x.probe(0), 1);
        suspectsAre(x, 2, NONE, 0, 0, 2);
        due("probe(2)", x.probe(2), 1);
        suspectsAre(x, 2, NONE, 0, 0, 2);
        x.hurt(304);
        suspectsAre(x, 8, 0, 2, 14, 4);
    }

    private static void suspect() {
        promise = "13";
        GuidedProbes x = with("1;N0", "01");
        int[][] want = {{100, 2, 1}, {102, 3, 1}, {200, 2, 1}, {202, 3, 1}, {302, 3, 1}};
        for (int suspect = 0; suspect < want.length; suspect++) {
            for (int what = 0; what < 3; what++) {
                due("suspect(" + suspect + ", " + what + ")", x.suspect(suspect, what), want[suspect][what]);
            }
        }
        due("suspect(5, 0)", x.suspect(5, 0), UNKNOWN);
        due("suspect(-1, 0)", x.suspect(-1, 0), UNKNOWN);
        due("suspect(MAX, 0)", x.suspect(Integer.MAX_VALUE, 0), UNKNOWN);
        due("suspect(0, 3)", x.suspect(0, 3), OUTSIDE);
        due("suspect(0, -1)", x.suspect(0, -1), OUTSIDE);
        due("suspect(5, 3)", x.suspect(5, 3), UNKNOWN);
        x.hurt(302);
        x.probe(0);
        due("suspect(0, 0)", x.suspect(0, 0), 102);
        due("suspect(0, 1)", x.suspect(0, 1), 3);
        due("suspect(0, 2)", x.suspect(0, 2), 0);
        due("suspect(2, 0)", x.suspect(2, 0), 302);
        due("suspect(3, 0)", x.suspect(3, 0), UNKNOWN);
    }

    private static void wayIs(GuidedProbes x, int node, int... want) {
        for (int place = 0; place < want.length; place++) {
            due("way(" + node + ", " + place + ")", x.way(node, place), want[place]);
        }
        due("way(" + node + ", " + want.length + ")", x.way(node, want.length), NONE);
        due("way(" + node + ", -1)", x.way(node, -1), NONE);
        due("way(" + node + ", MIN)", x.way(node, Integer.MIN_VALUE), NONE);
        due("way(" + node + ", MAX)", x.way(node, Integer.MAX_VALUE), NONE);
        due("place(" + node + ")", x.place(node), want.length == 0 ? NONE : want[want.length - 1]);
    }

    private static void wayOfLoops() {
        promise = "14";
        GuidedProbes x = with("1;N2;D1", "0000");
        wayIs(x, 1);
        // D has an OPEN PIN: 0, 1, 1, 1 and N 1, 0, 0, 0; both are unlike from TICK 2 on.
        x.hurt(304);
        wayIs(x, 0);
        wayIs(x, 1, 1, 2);
        wayIs(x, 2, 2);
        // N is stuck at 1: unlike from TICK 1 on, D from TICK 2 on.
        x.hurt(202);
        wayIs(x, 1, 1);
        wayIs(x, 2, 2, 1);
        due("way(3, 0)", x.way(3, 0), UNKNOWN);
        due("way(-1, 0)", x.way(-1, 0), UNKNOWN);
        due("way(3, -1)", x.way(3, -1), UNKNOWN);
    }

    private static void wayOfChoices() {
        // Two NODES with like FIRST: the least number, whichever PIN it drives.
        GuidedProbes x = with("1;N0;N0;A21;A12", "1");
        x.hurt(100);
        wayIs(x, 3, 3, 1, 0);
        wayIs(x, 4, 4, 1, 0);
        // The least FIRST goes ahead of the least number.
        GuidedProbes y = with("1;D2;D0;A12;A21", "1111");
        y.hurt(100);
        wayIs(y, 3, 3, 2, 0);
        wayIs(y, 4, 4, 2, 0);
        wayIs(y, 1, 1, 2, 0);
        wayIs(y, 0, 0);
        // By MARKS INPUT 0 is not BAD, but its HISTORY is unlike.
        GuidedProbes z = with("1;D0", "100011101");
        z.hurt(100);
        wayIs(z, 0, 0);
        wayIs(z, 1, 1, 0);
        GuidedProbes longest = with("4;N3;N4;N5;N6;N7;N8;N9;Na", "8");
        longest.hurt(106);
        wayIs(longest, 11, 11, 10, 9, 8, 7, 6, 5, 4, 3);
    }

    private static void place() {
        promise = "15";
        GuidedProbes x = with("2;A01;N2;O03", "0123");
        due("place(2)", x.place(2), NONE);
        due("place(5)", x.place(5), UNKNOWN);
        due("place(-1)", x.place(-1), UNKNOWN);
        x.hurt(106);
        due("place(4)", x.place(4), 3);
        due("place(3)", x.place(3), 3);
        due("place(2)", x.place(2), NONE);
        x.hurt(204);
        due("place(4)", x.place(4), 2);
        x.hurt(0);
        due("place(4)", x.place(4), NONE);
    }

    private static void count() {
        promise = "16";
        GuidedProbes x = with("3;A01;D4", "0123567");
        x.hurt(304);
        type(x, "abc");
        x.hurt(306);
        x.probe(0);
        x.forget();
        x.probe(3);
        x.probe(1);
        int[] want = {3, 2, 3, 7, 306, 2, 13, 1, 1, 3};
        for (int what = 0; what < want.length; what++) {
            due("count(" + what + ")", x.count(what), want[what]);
        }
        due("count(10)", x.count(10), OUTSIDE);
        due("count(-1)", x.count(-1), OUTSIDE);
        due("FAULTS of the most", boardAlone("4" + repeated(";A01", 8)).count(6), 40);
        x.blank();
        type(x, "01");
        x.stimulus();
        type(x, "1;N0");
        x.board();
        type(x, "1;N0");
        x.board();
        due("count(7)", x.count(7), 3);
        due("count(8)", x.count(8), 2);
    }

    /** The sum as the document tells it, from the answers of the other calls. */
    private static long digestOf(GuidedProbes x, String page) {
        long h = 1657;
        for (int node = 0; node < x.count(0) + x.count(1); node++) {
            for (int what = 0; what <= 9; what++) {
                h = 31 * h + x.node(node, what);
            }
            h = 31 * h + x.place(node);
        }
        for (int fault = 100; fault < 400; fault++) {
            if (x.shows(fault, 0) != UNKNOWN) {
                h = 31 * (31 * (31 * h + fault) + x.shows(fault, 0)) + x.shows(fault, 1);
            }
        }
        for (int what = 0; what <= 4; what++) {
            h = 31 * h + x.suspects(what);
        }
        for (int suspect = 0; suspect < x.suspects(0); suspect++) {
            for (int what = 0; what <= 2; what++) {
                h = 31 * h + x.suspect(suspect, what);
            }
        }
        for (int i = 0; i < page.length(); i++) {
            h = 31 * h + page.charAt(i);
        }
        for (int what = 0; what <= 9; what++) {
            h = 31 * h + x.count(what);
        }
        return h;
    }

    private static void digest() {
        promise = "17";
        GuidedProbes x = with("2;A01;N2;D3", "0123");
        due("digest()", x.digest(), digestOf(x, ""));
        x.hurt(106);
        due("digest()", x.digest(), digestOf(x, ""));
        x.probe(3);
        type(x, " ~;A");
        due("digest()", x.digest(), digestOf(x, " ~;A"));
        due("digest() again", x.digest(), digestOf(x, " ~;A"));
        GuidedProbes empty = new GuidedProbes();
        long h = 1657;
        int[] numbers = {0, -1, 0, 0, 0, 0, 0, 0, 0, 0, 0, 0, 0, 0, 0};
        for (int number : numbers) {
            h = 31 * h + number;
        }
        due("digest() of a new object", empty.digest(), h);
    }

    private static void refusals() {
        promise = "2 to 16, refusals";
        GuidedProbes x = with("2;A01;N2;D3", "0123");
        x.hurt(104);
        x.probe(3);
        type(x, "2;N5");
        long before = x.digest();
        due("letter", x.letter(10), OUTSIDE);
        due("board", x.board(), STATE);
        due("stimulus", x.stimulus(), STATE);
        due("hurt", x.hurt(103), UNKNOWN);
        due("node", x.node(5, 0), UNKNOWN);
        due("shows", x.shows(103, 0), UNKNOWN);
        due("probe", x.probe(5), UNKNOWN);
        due("probe", x.probe(3), STATE);
        due("suspects", x.suspects(9), OUTSIDE);
        due("suspect", x.suspect(99, 0), UNKNOWN);
        due("way", x.way(5, 0), UNKNOWN);
        due("place", x.place(5), UNKNOWN);
        due("count", x.count(10), OUTSIDE);
        due("fault", x.fault(false), 4);
        due("fault", x.fault(true), 1);
        due("digest behind them", x.digest(), before);
        type(x, repeated("0", 36));
        before = x.digest();
        due("letter", x.letter('0'), FULL);
        due("digest behind it", x.digest(), before);
    }
}
