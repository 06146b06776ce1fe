/** Promise 2: letter. */
public final class Promise02Letter {
    private static final String FULL_PAGE = Check.repeated("2;N5", 10);

    public static void main(String[] args) {
        Check.runTestsOf(Promise02Letter.class);
    }

    static void codeBelow32IsOutside() {
        Check.refused("letter(31)", x -> x.letter(31), Check.OUTSIDE);
        Check.refused("letter(0)", x -> x.letter(0), Check.OUTSIDE);
        Check.keeps("letter(31) of a new object", GuidedProbes::new, x -> x.letter(31), Check.OUTSIDE);
    }

    static void codeAbove126IsOutside() {
        Check.refused("letter(127)", x -> x.letter(127), Check.OUTSIDE);
        // Each would be a letter, were only its lowest 8 or 16 bits taken.
        Check.refused("letter(256 + 48)", x -> x.letter(256 + 48), Check.OUTSIDE);
        Check.refused("letter(65536 + 48)", x -> x.letter(65536 + 48), Check.OUTSIDE);
    }

    static void codeFarAwayIsOutside() {
        for (int code : Check.FAR_NUMBERS) {
            Check.refused("letter(" + code + ")", x -> x.letter(code), Check.OUTSIDE);
        }
    }

    static void codes32To126AreLetters() {
        for (int code = 32; code <= 126; code++) {
            Check.due("letter(" + code + ")", new GuidedProbes().letter(code), 1);
        }
    }

    static void answersHowManyThePageHas() {
        GuidedProbes x = new GuidedProbes();
        for (int many = 1; many <= 40; many++) {
            Check.due("letter " + many, x.letter('0'), many);
            Check.due("count(2)", x.count(2), many);
        }
    }

    static void the40thComesTheNextIsFull() {
        Check.due("letter 40", Check.typed(FULL_PAGE.substring(1)).letter('0'), 40);
        Check.keeps("letter 41", () -> Check.busyWithPage(FULL_PAGE), x -> x.letter('0'), Check.FULL);
        Check.keeps("letter(32) as 41", () -> Check.typed(FULL_PAGE), x -> x.letter(32), Check.FULL);
        Check.keeps("letter(126) as 41", () -> Check.typed(FULL_PAGE), x -> x.letter(126), Check.FULL);
    }

    static void outsideIsToldAheadOfFull() {
        for (int code : new int[] {31, 127, Integer.MIN_VALUE, Integer.MAX_VALUE}) {
            Check.keeps("letter(" + code + ") as 41", () -> Check.busyWithPage(FULL_PAGE), x -> x.letter(code), Check.OUTSIDE);
        }
    }

    static void comesBehindThePage() {
        GuidedProbes x = new GuidedProbes();
        String text = "1;N0";
        for (int at = 0; at < text.length(); at++) {
            Check.due("fault(false)", x.fault(false), at);
            x.letter(text.charAt(at));
        }
        Check.due("fault(false) of 1;N0", x.fault(false), 4);
        x.letter('?');
        Check.due("fault(false) of 1;N0?", x.fault(false), 4);
    }

    static void aFullPageThatIsBlankTakesLettersAgain() {
        GuidedProbes x = Check.typed(FULL_PAGE);
        x.blank();
        Check.due("letter behind blank()", x.letter('0'), 1);
    }
}
