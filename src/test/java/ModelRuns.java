import java.util.ArrayList;
import java.util.HashMap;
import java.util.List;
import java.util.Map;
import java.util.Random;
import java.util.regex.Matcher;
import java.util.regex.Pattern;

/** Many runs of calls, each answer held against a second reading of the document that shares no code with the class. */
public final class ModelRuns {
    private static final int RUNS = 300, CALLS = 512;
    private static final int NONE = -1, UNKNOWN = -1001, OUTSIDE = -1002, STATE = -1003, FULL = -1004;
    private static int wrong = 0;

    public static void main(String[] args) {
        for (int seed = 1; seed <= RUNS && wrong < 20; seed++) {
            new Run(seed).go();
        }
        System.out.println(wrong == 0 ? RUNS + " runs are as the model has them" : "at least " + wrong + " runs are not");
        if (wrong != 0) {
            System.exit(1);
        }
    }

    /** One run: what is called is drawn from a seed, so that a run that fails can be told by it. */
    private static final class Run {
        final int seed;
        final Random random;
        final GuidedProbes program = new GuidedProbes();
        final Model model = new Model();
        int calls = 0;
        boolean good = true;

        Run(int seed) {
            this.seed = seed;
            random = new Random(seed);
        }

        void go() {
            while (good && calls < CALLS) {
                switch (random.nextInt(16)) {
                    case 0: read(boardText(), false); break;
                    case 1: read(stimulusText(), true); break;
                    case 2: case 3: call("hurt", anyFault(), 0); break;
                    case 4: case 5: case 6: call("probe", anyNode(), 0); break;
                    case 7: call("node", anyNode(), random.nextInt(12) - 1); break;
                    case 8: call("shows", anyFault(), random.nextInt(4) - 1); break;
                    case 9: call("suspects", random.nextInt(7) - 1, 0); break;
                    case 10: call("suspect", random.nextInt(14) - 1, random.nextInt(5) - 1); break;
                    case 11: call("way", anyNode(), random.nextInt(6) - 1); break;
                    case 12: call("place", anyNode(), 0); break;
                    case 13: call("count", random.nextInt(12) - 1, 0); break;
                    case 14: call(random.nextInt(3) == 0 ? "forget" : "probe", followed(), 0); break;
                    default: call(random.nextInt(4) == 0 ? "digest" : "count", random.nextInt(10), 0); break;
                }
            }
            if (good) {
                check("digest()", program.digest(), model.digest());
            }
        }

        void read(String text, boolean stimulus) {
            if (random.nextInt(8) != 0) {
                call("blank", 0, 0);
            }
            for (int i = 0; i < text.length(); i++) {
                call("letter", text.charAt(i), 0);
            }
            if (random.nextInt(4) == 0) {
                call("fault", random.nextInt(2), 0);
            }
            call(random.nextInt(12) == 0 ^ stimulus ? "stimulus" : "board", 0, 0);
        }

        String boardText() {
            int inputs = 1 + random.nextInt(4);
            int gates = 1 + random.nextInt(8);
            char[] kinds = new char[gates];
            for (int gate = 0; gate < gates; gate++) {
                kinds[gate] = "AOXNDD".charAt(random.nextInt(6));
            }
            StringBuilder text = new StringBuilder().append(inputs);
            for (int gate = 0; gate < gates; gate++) {
                text.append(';').append(kinds[gate]);
                for (int pin = 0; pin < ("ND".indexOf(kinds[gate]) >= 0 ? 1 : 2); pin++) {
                    text.append("0123456789ab".charAt(anyDriver(inputs, kinds, gate)));
                }
            }
            return random.nextInt(6) == 0 ? spoiled(text) : text.toString();
        }

        int anyDriver(int inputs, char[] kinds, int gate) {
            for (int tries = 0; tries < 20; tries++) {
                int driver = random.nextInt(inputs + kinds.length);
                if (kinds[gate] == 'D' || driver < inputs + gate || kinds[driver - inputs] == 'D') {
                    return driver;
                }
            }
            return 0;
        }

        String spoiled(StringBuilder text) {
            int at = random.nextInt(text.length());
            switch (random.nextInt(3)) {
                case 0: text.setCharAt(at, ";ADNOX0123456789abcf ".charAt(random.nextInt(21))); break;
                case 1: text.deleteCharAt(at); break;
                default: text.insert(at, ";ADNOX0123456789abcf ".charAt(random.nextInt(21))); break;
            }
            return text.toString();
        }

        String stimulusText() {
            StringBuilder text = new StringBuilder();
            int ticks = random.nextInt(12) == 0 ? random.nextInt(20) : 6 + random.nextInt(11);
            for (int tick = 0; tick < ticks; tick++) {
                text.append("0123456789abcdefg".charAt(random.nextInt(random.nextInt(40) == 0 ? 17 : 16)));
            }
            return text.toString();
        }

        int anyFault() {
            List<Integer> faults = model.faults();
            if (!faults.isEmpty() && random.nextInt(6) != 0) {
                return faults.get(random.nextInt(faults.size()));
            }
            return random.nextInt(3) == 0 ? 0 : random.nextInt(420) - 10;
        }

        int anyNode() {
            return random.nextInt(10) == 0 ? random.nextInt(16) - 2 : random.nextInt(Math.max(1, model.nodes()));
        }

        int followed() {
            return model.next(model.suspectList(), model.found);
        }

        void call(String name, int a, int b) {
            if (good && calls < CALLS) {
                calls++;
                check(name + "(" + a + ", " + b + ")", answer(name, a, b), model.answer(name, a, b));
            }
        }

        void check(String call, long got, long want) {
            if (got != want) {
                good = false;
                wrong++;
                System.out.println("seed " + seed + ", call " + calls + ": " + call + " answered " + got + ", the model " + want);
            }
        }

        long answer(String name, int a, int b) {
            switch (name) {
                case "letter": return program.letter(a);
                case "blank": return program.blank();
                case "fault": return program.fault(a == 1);
                case "board": return program.board();
                case "stimulus": return program.stimulus();
                case "hurt": return program.hurt(a);
                case "node": return program.node(a, b);
                case "shows": return program.shows(a, b);
                case "probe": return program.probe(a);
                case "forget": return program.forget();
                case "suspects": return program.suspects(a);
                case "suspect": return program.suspect(a, b);
                case "way": return program.way(a, b);
                case "place": return program.place(a);
                case "count": return program.count(a);
                default: return program.digest();
            }
        }
    }

    /** The document in its own order, slowly: texts are kept as texts, nothing is worked out ahead. */
    private static final class Model {
        private static final Pattern BOARD = Pattern.compile("[1-4](;([AOX][0-9ab][0-9ab]|[ND][0-9ab])){1,8}");
        private static final Pattern STIMULUS = Pattern.compile("[0-9a-f]{1,16}");

        String page = "", stimulus = "", gates[] = {};
        int inputs = 0, fault = 0, boards = 0, stimuli = 0, ever = 0;
        Map<Integer, Integer> found = new HashMap<>();
        /** Only so that the model ends in time: values by FAULT, NODE and TICK, and MARKS; emptied with each new text. */
        final Map<Integer, Integer> known = new HashMap<>(), marks = new HashMap<>();

        int nodes() {
            return inputs + gates.length;
        }

        long answer(String name, int a, int b) {
            switch (name) {
                case "letter": return letter(a);
                case "blank": return blank();
                case "fault": return misfit(a == 1 ? STIMULUS : BOARD);
                case "board": return board();
                case "stimulus": return stimulus();
                case "hurt": return hurt(a);
                case "node": return node(a, b);
                case "shows": return shows(a, b);
                case "probe": return probe(a);
                case "forget": return forget();
                case "suspects": return suspects(a);
                case "suspect": return suspect(a, b);
                case "way": return way(a, b);
                case "place": return way(a, wayFrom(a).size() - 1);
                case "count": return count(a);
                default: return digest();
            }
        }

        int letter(int code) {
            if (code < 32 || code > 126) {
                return OUTSIDE;
            }
            if (page.length() == 40) {
                return FULL;
            }
            page += (char) code;
            return page.length();
        }

        int blank() {
            int had = page.length();
            page = "";
            return had;
        }

        int misfit(Pattern pattern) {
            for (int at = 0; at < page.length(); at++) {
                Matcher matcher = pattern.matcher(page.substring(0, at + 1));
                if (!matcher.matches() && !matcher.hitEnd()) {
                    return at;
                }
            }
            return page.length();
        }

        int board() {
            if (!BOARD.matcher(page).matches()) {
                return STATE;
            }
            int toldInputs = page.charAt(0) - '0';
            String[] told = page.substring(2).split(";");
            for (int gate = 0; gate < told.length; gate++) {
                for (int pin = 1; pin < told[gate].length(); pin++) {
                    int driver = Character.digit(told[gate].charAt(pin), 16);
                    if (driver >= toldInputs + told.length) {
                        return STATE;
                    }
                    boolean any = told[gate].startsWith("D");
                    boolean isDelay = driver >= toldInputs && told[driver - toldInputs].startsWith("D");
                    if (!any && !isDelay && driver >= toldInputs + gate) {
                        return STATE;
                    }
                }
            }
            inputs = toldInputs;
            gates = told;
            page = "";
            boards++;
            fault = 0;
            found.clear();
            known.clear();
            marks.clear();
            return nodes();
        }

        int stimulus() {
            if (!STIMULUS.matcher(page).matches()) {
                return STATE;
            }
            stimulus = page;
            page = "";
            stimuli++;
            found.clear();
            known.clear();
            marks.clear();
            return stimulus.length();
        }

        int hurt(int by) {
            if (by != 0 && !faults().contains(by)) {
                return UNKNOWN;
            }
            int had = fault;
            fault = by;
            found.clear();
            return had;
        }

        List<Integer> faults() {
            List<Integer> all = new ArrayList<>();
            for (int number = 100; number < 400; number++) {
                int kind = number / 100, node = number % 100 / 2, pin = number % 2;
                boolean is = kind < 3 ? pin == 0 && node < nodes() : driver(node, pin) != NONE;
                if (is) {
                    all.add(number);
                }
            }
            return all;
        }

        int driver(int node, int pin) {
            if (node < inputs || node >= nodes() || pin + 1 >= gates[node - inputs].length()) {
                return NONE;
            }
            return Character.digit(gates[node - inputs].charAt(pin + 1), 16);
        }

        char kind(int node) {
            return node < inputs ? 'I' : gates[node - inputs].charAt(0);
        }

        int value(int node, int tick, int by) {
            int key = (by * 12 + node) * 16 + tick;
            Integer before = known.get(key);
            if (before != null) {
                return before;
            }
            int value = valueAnew(node, tick, by);
            known.put(key, value);
            return value;
        }

        int valueAnew(int node, int tick, int by) {
            if (by / 100 == 1 && by % 100 / 2 == node) {
                return 0;
            }
            if (by / 100 == 2 && by % 100 / 2 == node) {
                return 1;
            }
            switch (kind(node)) {
                case 'I': return Character.digit(stimulus.charAt(tick), 16) / (1 << node) % 2;
                case 'A': return pin(node, 0, tick, by) + pin(node, 1, tick, by) == 2 ? 1 : 0;
                case 'O': return pin(node, 0, tick, by) + pin(node, 1, tick, by) > 0 ? 1 : 0;
                case 'X': return pin(node, 0, tick, by) != pin(node, 1, tick, by) ? 1 : 0;
                case 'N': return pin(node, 0, tick, by) == 0 ? 1 : 0;
                default: return tick == 0 ? 0 : pin(node, 0, tick - 1, by);
            }
        }

        int pin(int node, int pin, int tick, int by) {
            return by == 300 + 2 * node + pin ? 1 : value(driver(node, pin), tick, by);
        }

        int history(int node, int by) {
            int history = 0;
            for (int tick = stimulus.length() - 1; tick >= 0; tick--) {
                history = 2 * history + value(node, tick, by);
            }
            return history;
        }

        int mark(int node, int by) {
            return marks.computeIfAbsent(12 * by + node, key -> markAnew(node, by));
        }

        /** The bits, the first one highest, as a polynomial: what is left when it is divided by 256 + 29. */
        int markAnew(int node, int by) {
            int left = 0;
            for (int tick = 0; tick < stimulus.length(); tick++) {
                left = 2 * left + value(node, tick, by);
            }
            for (int place = stimulus.length(); place >= 8; place--) {
                if ((left >> place & 1) == 1) {
                    left ^= 256 + 29 << place - 8;
                }
            }
            return left;
        }

        boolean bad(int node, int by) {
            return mark(node, by) != mark(node, 0);
        }

        int first(int node) {
            for (int tick = 0; tick < stimulus.length(); tick++) {
                if (value(node, tick, fault) != value(node, tick, 0)) {
                    return tick;
                }
            }
            return NONE;
        }

        int node(int node, int what) {
            if (node < 0 || node >= nodes()) {
                return UNKNOWN;
            }
            switch (what) {
                case 0: return "IAOXND".indexOf(kind(node));
                case 1: return driver(node, 0);
                case 2: return driver(node, 1);
                case 3: return history(node, 0);
                case 4: return mark(node, 0);
                case 5: return history(node, fault);
                case 6: return mark(node, fault);
                case 7: return bad(node, fault) ? 1 : 0;
                case 8: return first(node);
                case 9: return found.getOrDefault(node, NONE);
                default: return OUTSIDE;
            }
        }

        int shows(int by, int what) {
            if (!faults().contains(by)) {
                return UNKNOWN;
            }
            if (what != 0 && what != 1) {
                return OUTSIDE;
            }
            int bits = 0;
            for (int node = 0; node < nodes(); node++) {
                if (what == 0 ? bad(node, by) : history(node, by) != history(node, 0)) {
                    bits += 1 << node;
                }
            }
            return bits;
        }

        int probe(int node) {
            if (node < 0 || node >= nodes()) {
                return UNKNOWN;
            }
            if (found.containsKey(node)) {
                return STATE;
            }
            found.put(node, bad(node, fault) ? 1 : 0);
            ever++;
            return found.get(node);
        }

        int forget() {
            int were = found.size();
            found.clear();
            return were;
        }

        List<Integer> suspectList() {
            return agreeing(found);
        }

        List<Integer> agreeing(Map<Integer, Integer> probed) {
            List<Integer> all = new ArrayList<>();
            for (int by : faults()) {
                boolean agrees = false;
                for (int node = 0; node < nodes(); node++) {
                    agrees |= bad(node, by);
                }
                for (int node : probed.keySet()) {
                    agrees &= bad(node, by) == (probed.get(node) == 1);
                }
                if (agrees) {
                    all.add(by);
                }
            }
            return all;
        }

        int next(List<Integer> suspects, Map<Integer, Integer> probed) {
            int next = NONE, least = Integer.MAX_VALUE;
            for (int node = nodes() - 1; node >= 0; node--) {
                int bad = 0;
                for (int by : suspects) {
                    bad += bad(node, by) ? 1 : 0;
                }
                int others = suspects.size() - bad;
                if (!probed.containsKey(node) && bad > 0 && others > 0 && bad * bad + others * others <= least) {
                    least = bad * bad + others * others;
                    next = node;
                }
            }
            return next;
        }

        /** REST and STEPS of a SUSPECT, by PROBING on as if it were the FAULT. */
        int[] end(int by) {
            Map<Integer, Integer> probed = new HashMap<>(found);
            List<Integer> left = agreeing(probed);
            int steps = 0;
            for (int node = next(left, probed); node != NONE; node = next(left, probed)) {
                probed.put(node, bad(node, by) ? 1 : 0);
                left = agreeing(probed);
                steps++;
            }
            return new int[] {left.size(), steps};
        }

        int suspects(int what) {
            List<Integer> all = suspectList();
            if (what == 0) {
                return all.size();
            }
            if (what == 1) {
                return next(all, found);
            }
            if (what < 0 || what > 4) {
                return OUTSIDE;
            }
            int most = 0, sum = 0, greatest = 0;
            for (int by : all) {
                int[] end = end(by);
                most = Math.max(most, end[1]);
                sum += end[1];
                greatest = Math.max(greatest, end[0]);
            }
            return what == 2 ? most : what == 3 ? sum : greatest;
        }

        int suspect(int suspect, int what) {
            List<Integer> all = suspectList();
            if (suspect < 0 || suspect >= all.size()) {
                return UNKNOWN;
            }
            if (what < 0 || what > 2) {
                return OUTSIDE;
            }
            return what == 0 ? all.get(suspect) : end(all.get(suspect))[what - 1];
        }

        List<Integer> wayFrom(int node) {
            List<Integer> way = new ArrayList<>();
            if (node < 0 || node >= nodes() || first(node) == NONE) {
                return way;
            }
            for (int on = node; on != NONE; on = onFrom(on, way)) {
                way.add(on);
            }
            return way;
        }

        int onFrom(int last, List<Integer> way) {
            int greatest = kind(last) == 'D' ? first(last) - 1 : first(last);
            for (int first = 0; first <= greatest; first++) {
                for (int node = 0; node < nodes(); node++) {
                    boolean drives = driver(last, 0) == node || driver(last, 1) == node;
                    if (drives && first(node) == first && !way.contains(node)) {
                        return node;
                    }
                }
            }
            return NONE;
        }

        int way(int node, int place) {
            if (node < 0 || node >= nodes()) {
                return UNKNOWN;
            }
            List<Integer> way = wayFrom(node);
            return place < 0 || place >= way.size() ? NONE : way.get(place);
        }

        int count(int what) {
            int[] counts = {inputs, gates.length, page.length(), stimulus.length(), fault, found.size(),
                faults().size(), boards, stimuli, ever};
            return what < 0 || what > 9 ? OUTSIDE : counts[what];
        }

        long digest() {
            List<Integer> numbers = new ArrayList<>();
            for (int node = 0; node < nodes(); node++) {
                for (int what = 0; what <= 9; what++) {
                    numbers.add(node(node, what));
                }
                numbers.add(way(node, wayFrom(node).size() - 1));
            }
            for (int by : faults()) {
                numbers.add(by);
                numbers.add(shows(by, 0));
                numbers.add(shows(by, 1));
            }
            for (int what = 0; what <= 4; what++) {
                numbers.add(suspects(what));
            }
            for (int suspect = 0; suspect < suspectList().size(); suspect++) {
                for (int what = 0; what <= 2; what++) {
                    numbers.add(suspect(suspect, what));
                }
            }
            page.chars().forEach(numbers::add);
            for (int what = 0; what <= 9; what++) {
                numbers.add(count(what));
            }
            long h = 1657;
            for (int number : numbers) {
                h = 31 * h + number;
            }
            return h;
        }
    }
}
