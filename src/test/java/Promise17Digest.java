import java.math.BigInteger;

/** Promise 17: digest. */
public final class Promise17Digest {
    private static final int NONE = Check.NONE;
    private static final int[] LEAST_WITHOUT_TICKS = {
        0, NONE, NONE, 0, 0, 0, 0, 0, NONE, NONE, NONE,
        4, 0, NONE, 0, 0, 0, 0, 0, NONE, NONE, NONE,
        100, 0, 0, 102, 0, 0, 200, 0, 0, 202, 0, 0, 302, 0, 0,
        0, NONE, 0, 0, 0,
        1, 1, 0, 0, 0, 0, 5, 1, 0, 0};
    /** TICKS 0 and 1, NODE 1 stuck at 0 and PROBED; "~" and a blank on THE PAGE. */
    private static final int[] LEAST_WITH_ALL = {
        0, NONE, NONE, 2, 1, 2, 1, 0, NONE, NONE, NONE,
        4, 0, NONE, 1, 2, 0, 0, 1, 0, 1, 1,
        100, 3, 3, 102, 2, 2, 200, 3, 3, 202, 2, 2, 302, 2, 2,
        5, 0, 1, 5, 3,
        100, 2, 1, 102, 3, 1, 200, 2, 1, 202, 3, 1, 302, 3, 1,
        126, 32,
        1, 1, 2, 2, 102, 1, 5, 1, 1, 1};

    public static void main(String[] args) {
        Check.runTestsOf(Promise17Digest.class);
    }

    /** Without wrapping until the end, so that it does not go wrong as a long could. */
    private static long sum(int... numbers) {
        BigInteger h = BigInteger.valueOf(1657);
        for (int number : numbers) {
            h = h.multiply(BigInteger.valueOf(31)).add(BigInteger.valueOf(number));
        }
        return h.longValue();
    }

    private static GuidedProbes leastWithAll() {
        GuidedProbes x = Check.hurt(Check.with("1;N0", "01"), 102);
        x.probe(1);
        return Check.type(x, "~ ");
    }

    static void aNewObjectHasNoNodesFaultsSuspectsLetters() {
        Check.due("digest()", new GuidedProbes().digest(), sum(0, NONE, 0, 0, 0, 0, 0, 0, 0, 0, 0, 0, 0, 0, 0));
    }

    static void lettersAreToldByTheirCodes() {
        Check.due("digest()", Check.typed(" ~0").digest(), sum(0, NONE, 0, 0, 0, 32, 126, 48, 0, 0, 3, 0, 0, 0, 0, 0, 0, 0));
    }

    static void aFullPageIsTold() {
        int[] numbers = new int[5 + 40 + 10];
        numbers[1] = NONE;
        for (int at = 0; at < 40; at++) {
            numbers[5 + at] = 40 + at;
        }
        numbers[5 + 40 + 2] = 40;
        GuidedProbes x = new GuidedProbes();
        for (int at = 0; at < 41; at++) {
            x.letter(40 + at);
        }
        Check.due("digest()", x.digest(), sum(numbers));
    }

    static void lettersThatAreGoneAreNotTold() {
        GuidedProbes x = Check.typed("1;N0");
        x.blank();
        Check.due("digest()", x.digest(), new GuidedProbes().digest());
    }

    static void withoutTicks() {
        Check.due("digest()", Check.boardAlone("1;N0").digest(), sum(LEAST_WITHOUT_TICKS));
    }

    static void withAllItWraps() {
        Check.due("digest()", leastWithAll().digest(), sum(LEAST_WITH_ALL));
    }

    static void ofTheGreatestBoard() {
        GuidedProbes x = Check.hurt(Check.with(Check.GREATEST_BOARD, Check.ITS_STIMULUS), 323);
        x.probe(11);
        // 12 * 11 numbers of NODES, 40 * 3 of FAULTS, 5, 3 of each SUSPECT, 10.
        int[] numbers = new int[132 + 120 + 5 + 3 * x.suspects(0) + 10];
        int at = 0;
        for (int node = 0; node < 12; node++) {
            for (int what = 0; what <= 9; what++) {
                numbers[at++] = x.node(node, what);
            }
            numbers[at++] = x.place(node);
        }
        for (int fault = 100; fault <= 323; fault += fault == 122 ? 78 : fault == 222 ? 86 : fault < 300 ? 2 : 1) {
            numbers[at++] = fault;
            numbers[at++] = x.shows(fault, 0);
            numbers[at++] = x.shows(fault, 1);
        }
        for (int what = 0; what <= 4; what++) {
            numbers[at++] = x.suspects(what);
        }
        for (int suspect = 0; suspect < x.suspects(0); suspect++) {
            for (int what = 0; what <= 2; what++) {
                numbers[at++] = x.suspect(suspect, what);
            }
        }
        for (int what = 0; what <= 9; what++) {
            numbers[at++] = x.count(what);
        }
        Check.due("how many numbers", at, numbers.length);
        Check.due("digest()", x.digest(), sum(numbers));
    }

    static void changesNothing() {
        Check.keeps("digest()", Promise17Digest::leastWithAll, GuidedProbes::digest, sum(LEAST_WITH_ALL));
        Check.keeps("digest() of a new object", GuidedProbes::new, GuidedProbes::digest, new GuidedProbes().digest());
    }
}
