import java.util.Arrays;

/** A board that fails, probed node by node. What each call answers stands in the document, DOC.md. */
public final class GuidedProbes {
    public static final int NONE = -1, UNKNOWN = -1001, OUTSIDE = -1002, STATE = -1003, FULL = -1004;

    private static final int MOST_LETTERS = 40;
    private static final int MOST_GATES = 8;
    private static final int MOST_NODES = 12;
    private static final int MOST_PINS = 2;
    private static final int MOST_TICKS = 16;
    /** Two for each of 12 NODES, one for each of the 16 PINS that eight GATES can have. */
    private static final int MOST_FAULTS = 40;

    private static final int INPUT = 0, AND = 1, OR = 2, XOR = 3, NOT = 4, DELAY = 5;
    private static final int STUCK_AT_0 = 100, STUCK_AT_1 = 200, OPEN = 300;

    private final Page page = new Page();
    private final Board wiring = new Board();
    /** THE PAGE is read into this one, so that a refused text leaves the BOARD as it is. */
    private final Board draft = new Board();
    private final Stimulus ticking = new Stimulus();
    private final Simulation simulation = new Simulation(wiring, ticking);
    private final Histories good = new Histories();
    private final Histories now = new Histories();
    private final FaultList faults = new FaultList();
    private final Probes probes = new Probes();
    private final Suspects suspected = new Suspects();
    private final WayBack wayBack = new WayBack(wiring);
    private int faultNow = 0;
    private int boardsRead = 0;
    private int stimuliRead = 0;

    public GuidedProbes() {
    }

    // ---- texts

    public int letter(int code) {
        if (code < 32 || code > 126) {
            return OUTSIDE;
        }
        if (page.length >= MOST_LETTERS) {
            return FULL;
        }
        page.append(code);
        return page.length;
    }

    public int blank() {
        int had = page.length;
        page.clear();
        return had;
    }

    public int fault(boolean stimulus) {
        return stimulus ? Stimulus.misfit(page) : draft.read(page);
    }

    public int board() {
        int misfit = draft.read(page);
        if (misfit < page.length || !draft.isWhole() || !draft.isDrivenRightly()) {
            return STATE;
        }
        wiring.copyFrom(draft);
        page.clear();
        boardsRead++;
        faultNow = 0;
        simulateFaults();
        simulateNow();
        return wiring.nodes;
    }

    public int stimulus() {
        if (page.length == 0 || Stimulus.misfit(page) < page.length) {
            return STATE;
        }
        ticking.read(page);
        page.clear();
        stimuliRead++;
        simulateFaults();
        simulateNow();
        return ticking.ticks;
    }

    public int hurt(int fault) {
        if (fault != 0 && faults.indexOf(fault) == NONE) {
            return UNKNOWN;
        }
        int had = faultNow;
        faultNow = fault;
        simulateNow();
        return had;
    }

    // ---- nodes

    public int node(int node, int what) {
        if (!wiring.has(node)) {
            return UNKNOWN;
        }
        switch (what) {
            case 0: return wiring.kinds[node];
            case 1: return wiring.driver(node, 0);
            case 2: return wiring.driver(node, 1);
            case 3: return good.bits[node];
            case 4: return good.marks[node];
            case 5: return now.bits[node];
            case 6: return now.marks[node];
            case 7: return now.isBad(node, good) ? 1 : 0;
            case 8: return wayBack.firsts[node];
            case 9: return probes.found[node];
            default: return OUTSIDE;
        }
    }

    public int shows(int fault, int what) {
        int index = faults.indexOf(fault);
        if (index == NONE) {
            return UNKNOWN;
        }
        switch (what) {
            case 0: return faults.bad[index];
            case 1: return faults.unlike[index];
            default: return OUTSIDE;
        }
    }

    // ---- probes

    public int probe(int node) {
        if (!wiring.has(node)) {
            return UNKNOWN;
        }
        if (probes.found[node] != NONE) {
            return STATE;
        }
        probes.add(node, now.isBad(node, good));
        suspected.choose(probes);
        return probes.found[node];
    }

    public int forget() {
        int were = probes.size;
        forgetProbes();
        return were;
    }

    public int suspects(int what) {
        switch (what) {
            case 0: return suspected.size;
            case 1: return suspected.next;
            case 2: return suspected.mostSteps();
            case 3: return suspected.allSteps();
            case 4: return suspected.greatestRest();
            default: return OUTSIDE;
        }
    }

    public int suspect(int suspect, int what) {
        if (suspect < 0 || suspect >= suspected.size) {
            return UNKNOWN;
        }
        int index = suspected.members[suspect];
        switch (what) {
            case 0: return faults.numbers[index];
            case 1: return suspected.rests[index];
            case 2: return suspected.steps[index];
            default: return OUTSIDE;
        }
    }

    // ---- the way back

    public int way(int node, int place) {
        if (!wiring.has(node)) {
            return UNKNOWN;
        }
        wayBack.goFrom(node);
        return wayBack.at(place);
    }

    public int place(int node) {
        if (!wiring.has(node)) {
            return UNKNOWN;
        }
        wayBack.goFrom(node);
        return wayBack.at(wayBack.length - 1);
    }

    // ---- what is told of all

    public int count(int what) {
        switch (what) {
            case 0: return wiring.inputs;
            case 1: return wiring.nodes - wiring.inputs;
            case 2: return page.length;
            case 3: return ticking.ticks;
            case 4: return faultNow;
            case 5: return probes.size;
            case 6: return faults.size;
            case 7: return boardsRead;
            case 8: return stimuliRead;
            case 9: return probes.ever;
            default: return OUTSIDE;
        }
    }

    public long digest() {
        long h = digestNodes(1657);
        h = digestFaults(h);
        for (int what = 0; what <= 4; what++) {
            h = 31 * h + suspects(what);
        }
        h = digestSuspects(h);
        for (int at = 0; at < page.length; at++) {
            h = 31 * h + page.codes[at];
        }
        for (int what = 0; what <= 9; what++) {
            h = 31 * h + count(what);
        }
        return h;
    }

    private long digestNodes(long start) {
        long h = start;
        for (int node = 0; node < wiring.nodes; node++) {
            for (int what = 0; what <= 9; what++) {
                h = 31 * h + node(node, what);
            }
            h = 31 * h + place(node);
        }
        return h;
    }

    private long digestFaults(long start) {
        long h = start;
        for (int index = 0; index < faults.size; index++) {
            h = 31 * h + faults.numbers[index];
            h = 31 * h + faults.bad[index];
            h = 31 * h + faults.unlike[index];
        }
        return h;
    }

    private long digestSuspects(long start) {
        long h = start;
        for (int place = 0; place < suspected.size; place++) {
            for (int what = 0; what <= 2; what++) {
                h = 31 * h + suspect(place, what);
            }
        }
        return h;
    }

    /** Another BOARD or STIMULUS changes what each FAULT would show, not only what is so NOW. */
    private void simulateFaults() {
        simulation.run(0, good);
        faults.list(wiring);
        for (int index = 0; index < faults.size; index++) {
            simulation.run(faults.numbers[index], now);
            faults.bad[index] = now.badNodes(good);
            faults.unlike[index] = now.unlikeNodes(good);
        }
        suspected.learn(faults);
    }

    private void simulateNow() {
        simulation.run(faultNow, now);
        wayBack.learn(good, now);
        forgetProbes();
    }

    private void forgetProbes() {
        probes.clear();
        suspected.choose(probes);
    }

    /** What a letter tells as a figure: 0 to 15, or NONE. */
    private static int figure(int code) {
        if (code >= '0' && code <= '9') {
            return code - '0';
        }
        if (code >= 'a' && code <= 'f') {
            return code - 'a' + 10;
        }
        return NONE;
    }

    /** THE PAGE. */
    private static final class Page {
        final int[] codes = new int[MOST_LETTERS];
        int length = 0;

        void append(int code) {
            if (length < MOST_LETTERS) {
                codes[length] = code;
                length++;
            }
        }

        void clear() {
            length = 0;
        }
    }

    /** A BOARD, and how far its text has been read. */
    private static final class Board {
        private static final int AWAITS_INPUTS = 0, AWAITS_GATE = 1, AWAITS_KIND = 2, AWAITS_PIN = 3;

        final int[] kinds = new int[MOST_NODES];
        /** At 2 * NODE + PIN, the same sum as in the number of a FAULT. */
        final int[] drivers = new int[MOST_NODES * MOST_PINS];
        int inputs = 0;
        int nodes = 0;
        private int awaited = AWAITS_INPUTS;
        private int pinsTold = 0;

        /** The place of the first letter with which no BOARD begins; the length of THE PAGE, if there is none. */
        int read(Page page) {
            inputs = 0;
            nodes = 0;
            awaited = AWAITS_INPUTS;
            for (int at = 0; at < page.length; at++) {
                if (!takes(page.codes[at])) {
                    return at;
                }
            }
            return page.length;
        }

        private boolean takes(int code) {
            switch (awaited) {
                case AWAITS_INPUTS: return takesInputs(code);
                case AWAITS_GATE: return takesGate(code);
                case AWAITS_KIND: return takesKind(code);
                default: return takesPin(code);
            }
        }

        private boolean takesInputs(int code) {
            if (code < '1' || code > '4') {
                return false;
            }
            inputs = code - '0';
            Arrays.fill(kinds, INPUT);
            nodes = inputs;
            awaited = AWAITS_GATE;
            return true;
        }

        private boolean takesGate(int code) {
            if (code != ';' || nodes - inputs >= MOST_GATES) {
                return false;
            }
            awaited = AWAITS_KIND;
            return true;
        }

        private boolean takesKind(int code) {
            int kind = kindOf(code);
            if (kind == NONE || nodes >= MOST_NODES) {
                return false;
            }
            kinds[nodes] = kind;
            nodes++;
            pinsTold = 0;
            awaited = AWAITS_PIN;
            return true;
        }

        private boolean takesPin(int code) {
            int driver = figure(code);
            int gate = nodes - 1;
            if (driver == NONE || driver >= MOST_NODES || gate < 0 || pinsTold >= pins(gate)) {
                return false;
            }
            drivers[MOST_PINS * gate + pinsTold] = driver;
            pinsTold++;
            if (pinsTold == pins(gate)) {
                awaited = AWAITS_GATE;
            }
            return true;
        }

        private static int kindOf(int code) {
            switch (code) {
                case 'A': return AND;
                case 'O': return OR;
                case 'X': return XOR;
                case 'N': return NOT;
                case 'D': return DELAY;
                default: return NONE;
            }
        }

        boolean isWhole() {
            return awaited == AWAITS_GATE && nodes > inputs;
        }

        boolean isDrivenRightly() {
            for (int gate = inputs; gate < nodes; gate++) {
                for (int pin = 0; pin < pins(gate); pin++) {
                    if (!mayDrive(driver(gate, pin), gate)) {
                        return false;
                    }
                }
            }
            return true;
        }

        private boolean mayDrive(int driver, int gate) {
            return has(driver) && (driver < gate || kinds[gate] == DELAY || kinds[driver] == DELAY);
        }

        boolean has(int node) {
            return node >= 0 && node < nodes;
        }

        int pins(int node) {
            switch (kinds[node]) {
                case INPUT: return 0;
                case NOT: return 1;
                case DELAY: return 1;
                default: return 2;
            }
        }

        int driver(int node, int pin) {
            return pin < pins(node) ? drivers[MOST_PINS * node + pin] : NONE;
        }

        void copyFrom(Board other) {
            inputs = other.inputs;
            nodes = other.nodes;
            System.arraycopy(other.kinds, 0, kinds, 0, MOST_NODES);
            System.arraycopy(other.drivers, 0, drivers, 0, MOST_NODES * MOST_PINS);
        }
    }

    /** The STIMULUS. */
    private static final class Stimulus {
        private final int[] figures = new int[MOST_TICKS];
        int ticks = 0;

        /** The place of the first letter with which no STIMULUS begins; the length of THE PAGE, if there is none. */
        static int misfit(Page page) {
            for (int at = 0; at < page.length; at++) {
                if (at >= MOST_TICKS || figure(page.codes[at]) == NONE) {
                    return at;
                }
            }
            return page.length;
        }

        void read(Page page) {
            ticks = Math.min(page.length, MOST_TICKS);
            for (int tick = 0; tick < ticks; tick++) {
                figures[tick] = figure(page.codes[tick]);
            }
        }

        int bit(int tick, int input) {
            return figures[tick] >> input & 1;
        }
    }

    /** HISTORIES and MARKS of all NODES, by one FAULT or by none. */
    private static final class Histories {
        final int[] bits = new int[MOST_NODES];
        final int[] marks = new int[MOST_NODES];

        void clear() {
            Arrays.fill(bits, 0);
            Arrays.fill(marks, 0);
        }

        void add(int tick, int node, int bit) {
            int mark = marks[node];
            bits[node] |= bit << tick;
            marks[node] = (2 * mark + bit ^ (mark >= 128 ? 29 : 0)) & 255;
        }

        boolean isBad(int node, Histories good) {
            return marks[node] != good.marks[node];
        }

        int badNodes(Histories good) {
            int nodes = 0;
            for (int node = 0; node < MOST_NODES; node++) {
                if (isBad(node, good)) {
                    nodes |= 1 << node;
                }
            }
            return nodes;
        }

        int unlikeNodes(Histories good) {
            int nodes = 0;
            for (int node = 0; node < MOST_NODES; node++) {
                if (bits[node] != good.bits[node]) {
                    nodes |= 1 << node;
                }
            }
            return nodes;
        }

        int firstUnlike(int node, Histories good) {
            int unlike = bits[node] ^ good.bits[node];
            for (int tick = 0; tick < MOST_TICKS; tick++) {
                if ((unlike >> tick & 1) != 0) {
                    return tick;
                }
            }
            return NONE;
        }
    }

    /** The BOARD under the STIMULUS, TICK by TICK. */
    private static final class Simulation {
        private final Board board;
        private final Stimulus stimulus;
        private final int[] values = new int[MOST_NODES];
        private final int[] valuesAhead = new int[MOST_NODES];
        private int fault = 0;

        Simulation(Board board, Stimulus stimulus) {
            this.board = board;
            this.stimulus = stimulus;
        }

        void run(int byFault, Histories into) {
            fault = byFault;
            into.clear();
            for (int tick = 0; tick < stimulus.ticks; tick++) {
                System.arraycopy(values, 0, valuesAhead, 0, MOST_NODES);
                // Ds first: GATES ahead of a D may be driven by it.
                setNodes(true, tick);
                setNodes(false, tick);
                for (int node = 0; node < board.nodes; node++) {
                    into.add(tick, node, values[node]);
                }
            }
        }

        private void setNodes(boolean areDelays, int tick) {
            for (int node = 0; node < board.nodes; node++) {
                if ((board.kinds[node] == DELAY) == areDelays) {
                    values[node] = value(node, tick);
                }
            }
        }

        private int value(int node, int tick) {
            if (fault == STUCK_AT_0 + MOST_PINS * node) {
                return 0;
            }
            if (fault == STUCK_AT_1 + MOST_PINS * node) {
                return 1;
            }
            switch (board.kinds[node]) {
                case INPUT: return stimulus.bit(tick, node);
                case AND: return pinValue(node, 0, values) & pinValue(node, 1, values);
                case OR: return pinValue(node, 0, values) | pinValue(node, 1, values);
                case XOR: return pinValue(node, 0, values) ^ pinValue(node, 1, values);
                case NOT: return 1 - pinValue(node, 0, values);
                // In TICK 0 there is no TICK ahead, so a D has 0 even if its PIN is OPEN.
                default: return tick == 0 ? 0 : pinValue(node, 0, valuesAhead);
            }
        }

        private int pinValue(int node, int pin, int[] from) {
            if (fault == OPEN + MOST_PINS * node + pin) {
                return 1;
            }
            int driver = board.drivers[MOST_PINS * node + pin];
            return board.has(driver) ? from[driver] : 0;
        }
    }

    /** FAULTS of the BOARD, and what each would show. */
    private static final class FaultList {
        final int[] numbers = new int[MOST_FAULTS];
        /** NODES as bits. */
        final int[] bad = new int[MOST_FAULTS];
        final int[] unlike = new int[MOST_FAULTS];
        int size = 0;

        void list(Board board) {
            size = 0;
            for (int node = 0; node < board.nodes; node++) {
                add(STUCK_AT_0 + MOST_PINS * node);
            }
            for (int node = 0; node < board.nodes; node++) {
                add(STUCK_AT_1 + MOST_PINS * node);
            }
            for (int node = 0; node < board.nodes; node++) {
                for (int pin = 0; pin < board.pins(node); pin++) {
                    add(OPEN + MOST_PINS * node + pin);
                }
            }
        }

        private void add(int number) {
            if (size < MOST_FAULTS) {
                numbers[size] = number;
                size++;
            }
        }

        int indexOf(int number) {
            for (int index = 0; index < size; index++) {
                if (numbers[index] == number) {
                    return index;
                }
            }
            return NONE;
        }
    }

    /** Which NODES were PROBED, and how they were found. */
    private static final class Probes {
        final int[] found = new int[MOST_NODES];
        int size = 0;
        int ever = 0;

        Probes() {
            Arrays.fill(found, NONE);
        }

        void add(int node, boolean isBad) {
            found[node] = isBad ? 1 : 0;
            size++;
            ever++;
        }

        void clear() {
            Arrays.fill(found, NONE);
            size = 0;
        }
    }

    /** SUSPECTS; sets of FAULTS are bits of a long, by their index in the list of FAULTS. */
    private static final class Suspects {
        /** For each NODE the FAULTS by which it would be BAD. */
        private final long[] badBy = new long[MOST_NODES];
        /** FAULTS by which some NODE would be BAD. */
        private long seen = 0;
        final int[] members = new int[MOST_FAULTS];
        /** REST and STEPS, by the index in the list of FAULTS. */
        final int[] rests = new int[MOST_FAULTS];
        final int[] steps = new int[MOST_FAULTS];
        int size = 0;
        int next = NONE;

        void learn(FaultList faults) {
            seen = 0;
            for (int node = 0; node < MOST_NODES; node++) {
                badBy[node] = 0;
                for (int index = 0; index < faults.size; index++) {
                    badBy[node] |= (long) (faults.bad[index] >> node & 1) << index;
                }
                seen |= badBy[node];
            }
        }

        void choose(Probes probes) {
            long set = seen;
            int probed = 0;
            for (int node = 0; node < MOST_NODES; node++) {
                if (probes.found[node] != NONE) {
                    set &= side(node, probes.found[node] == 1);
                    probed |= 1 << node;
                }
            }
            listMembers(set);
            next = nextOf(set, probed);
            goOn(set, probed, 0);
        }

        private void listMembers(long set) {
            size = 0;
            for (int index = 0; index < MOST_FAULTS; index++) {
                if ((set >> index & 1) != 0) {
                    members[size] = index;
                    size++;
                }
            }
        }

        private long side(int node, boolean isBad) {
            return isBad ? badBy[node] : ~badBy[node];
        }

        private int nextOf(long set, int probed) {
            int all = Long.bitCount(set);
            int best = NONE;
            // A NODE that leaves all on one side has just this sum, any other less.
            int least = all * all;
            for (int node = 0; node < MOST_NODES; node++) {
                int bad = Long.bitCount(set & badBy[node]);
                int squares = bad * bad + (all - bad) * (all - bad);
                if ((probed >> node & 1) == 0 && squares < least) {
                    least = squares;
                    best = node;
                }
            }
            return best;
        }

        /** Follows NEXT to both sides at once: SUSPECTS of one side are PROBED alike from there on. */
        private void goOn(long set, int probed, int made) {
            int node = made < MOST_NODES ? nextOf(set, probed) : NONE;
            if (node == NONE) {
                end(set, made);
                return;
            }
            goOn(set & side(node, true), probed | 1 << node, made + 1);
            goOn(set & side(node, false), probed | 1 << node, made + 1);
        }

        private void end(long set, int made) {
            int left = Long.bitCount(set);
            for (int index = 0; index < MOST_FAULTS; index++) {
                if ((set >> index & 1) != 0) {
                    rests[index] = left;
                    steps[index] = made;
                }
            }
        }

        int mostSteps() {
            int most = 0;
            for (int place = 0; place < size; place++) {
                most = Math.max(most, steps[members[place]]);
            }
            return most;
        }

        int allSteps() {
            int sum = 0;
            for (int place = 0; place < size; place++) {
                sum += steps[members[place]];
            }
            return sum;
        }

        int greatestRest() {
            int greatest = 0;
            for (int place = 0; place < size; place++) {
                greatest = Math.max(greatest, rests[members[place]]);
            }
            return greatest;
        }
    }

    /** The WAY from a NODE. */
    private static final class WayBack {
        private final Board board;
        /** FIRST of each NODE, or NONE. */
        final int[] firsts = new int[MOST_NODES];
        private final int[] nodes = new int[MOST_NODES];
        private int passed = 0;
        int length = 0;

        WayBack(Board board) {
            this.board = board;
            Arrays.fill(firsts, NONE);
        }

        void learn(Histories good, Histories now) {
            for (int node = 0; node < MOST_NODES; node++) {
                firsts[node] = now.firstUnlike(node, good);
            }
        }

        void goFrom(int node) {
            length = 0;
            passed = 0;
            int last = firsts[node] == NONE ? NONE : node;
            while (last != NONE && length < MOST_NODES) {
                nodes[length] = last;
                length++;
                passed |= 1 << last;
                last = source(last);
            }
        }

        private int source(int last) {
            int source = NONE;
            for (int pin = 0; pin < board.pins(last); pin++) {
                int driver = board.driver(last, pin);
                if (leadsTo(driver, last) && (source == NONE || isSooner(driver, source))) {
                    source = driver;
                }
            }
            return source;
        }

        private boolean leadsTo(int driver, int last) {
            if (!board.has(driver) || firsts[driver] == NONE || (passed >> driver & 1) != 0) {
                return false;
            }
            return firsts[driver] < firsts[last]
                || firsts[driver] == firsts[last] && board.kinds[last] != DELAY;
        }

        private boolean isSooner(int node, int other) {
            return firsts[node] < firsts[other] || firsts[node] == firsts[other] && node < other;
        }

        int at(int place) {
            return place >= 0 && place < length ? nodes[place] : NONE;
        }
    }
}
