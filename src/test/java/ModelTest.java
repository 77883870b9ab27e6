import java.math.BigInteger;
import java.util.ArrayList;
import java.util.List;
import java.util.Random;
import java.util.TreeMap;
import java.util.regex.Matcher;
import java.util.regex.Pattern;

/** Runs of calls by chance, each answer beside that of a slow model: whole numbers without end, all chains tried. */
public final class ModelTest {
    private static final int RUNS = 1500;
    private static final int CALLS = 512;
    private static final int BAD = -1, STATE = -2, FULL = -3, NONE = -4;

    public static void main(String[] args) {
        int wrong = 0;
        for (int run = 0; run < RUNS && wrong < 5; run++) {
            wrong += new Run(run).play() ? 0 : 1;
        }
        System.out.println("model: " + RUNS + " runs, " + wrong + " wrong");
        int wrongEdges = 0;
        for (int state = 0; state < Edges.STATES; state++) {
            wrongEdges += new Edges(state).sweep();
        }
        System.out.println("model: every call at its edges, " + wrongEdges + " wrong");
        wrong += wrongEdges;
        if (wrong > 0) {
            System.exit(1);
        }
    }

    /** One object and its model under the same calls. */
    private static final class Run {
        private final Random random;
        private final int seed;
        private final BeaconLines x = new BeaconLines();
        private final Model m = new Model();
        private final StringBuilder told = new StringBuilder();
        private final boolean byText;
        private final int widest;
        private boolean good = true;
        private int calls;

        Run(int seed) {
            this.seed = seed;
            random = new Random(seed);
            byText = seed % 3 == 0;
            widest = new int[] {4, 30, 1000, 9999}[random.nextInt(4)];
        }

        boolean play() {
            while (good && calls < CALLS) {
                step();
            }
            if (!good) {
                String all = told.toString();
                System.out.println("run " + seed + ": .." + all.substring(Math.max(0, all.length() - 700)));
            }
            return good;
        }

        private void same(String call, long got, long want) {
            calls++;
            told.append(' ').append(call).append('=').append(got);
            if (got != want) {
                good = false;
                told.append(" (due is ").append(want).append(')');
            }
        }

        /** Mostly from lowest to highest, now and then outside, or at an end of the ints. */
        private int some(int lowest, int highest) {
            int dice = random.nextInt(60);
            if (dice == 0) {
                return lowest - 1 - random.nextInt(3);
            }
            if (dice == 1) {
                return highest + 1 + random.nextInt(3);
            }
            if (dice == 2) {
                return random.nextBoolean() ? Integer.MIN_VALUE : Integer.MAX_VALUE;
            }
            return lowest + random.nextInt(highest - lowest + 1);
        }

        private int someClock() {
            return some(0, m.stamps.length - 1);
        }

        private long someTime(int r, int s) {
            switch (random.nextInt(6)) {
                case 3: return edgeTime(r, s);
                case 4: return halfTime(r, s);
                case 0: return random.nextLong();
                case 1: return random.nextLong() >> random.nextInt(64);
                case 2: return random.nextBoolean() ? Long.MIN_VALUE : Long.MAX_VALUE;
                default: return random.nextInt(256 * 10000) - 1000;
            }
        }

        /** About where N v, A, XY A or B of the first hop passes an end of 64 bits. */
        private long edgeTime(int r, int s) {
            List<Integer> way = m.clk(r) && m.clk(s) ? m.best(r, s) : null;
            if (way == null || way.size() < 2) {
                return Long.MAX_VALUE;
            }
            Model.Fit f = m.fit(way.get(0), way.get(1));
            BigInteger end = Model.big(random.nextBoolean() ? Long.MAX_VALUE : Long.MIN_VALUE);
            if (random.nextBoolean()) {
                end = end.subtract(f.sy.multiply(f.xx).shiftLeft(8));
            }
            BigInteger a = f.xy.signum() == 0 ? end : end.divide(f.xy);
            if (random.nextBoolean()) {
                a = a.add(f.sx.shiftLeft(8));
            }
            return a.divide(Model.big(f.n)).longValue() + random.nextInt(5) - 2;
        }

        /** Where B of the first hop is a half above a whole number of DENs, if that can be: chance alone hardly finds one. */
        private long halfTime(int r, int s) {
            long any = random.nextInt(256 * 10000) - 1000;
            List<Integer> way = m.clk(r) && m.clk(s) ? m.best(r, s) : null;
            if (way == null || way.size() < 2) {
                return any;
            }
            Model.Fit f = m.fit(way.get(0), way.get(1));
            BigInteger n = Model.big(f.n);
            BigInteger den = n.multiply(f.xx);
            BigInteger perStep = n.multiply(f.xy);
            BigInteger atZero = f.sy.multiply(f.xx).subtract(f.sx.multiply(f.xy)).shiftLeft(8);
            BigInteger wanted = den.shiftRight(1).subtract(atZero);
            BigInteger common = perStep.gcd(den);
            if (den.testBit(0) || wanted.mod(common).signum() != 0) {
                return any;
            }
            BigInteger period = den.divide(common);
            BigInteger v = wanted.divide(common).multiply(perStep.divide(common).modInverse(period)).mod(period);
            return v.add(period.multiply(Model.big(random.nextInt(7) - 3))).longValue();
        }

        private void step() {
            int dice = random.nextInt(100);
            if (byText && dice < 8) {
                playText();
            } else if (dice < 35) {
                change();
            } else if (dice < 45) {
                sheets();
            } else {
                ask();
            }
        }

        private void change() {
            int b = some(0, 15);
            int r = someClock();
            int dice = random.nextInt(40);
            if (dice < 20) {
                int t = random.nextInt(4) == 0 ? some(0, 9999) : likely(b, r);
                same("hear(" + b + "," + r + "," + t + ")", x.hear(b, r, t), m.hear(b, r, t));
            } else if (dice < 24) {
                same("lose(" + b + "," + r + ")", x.lose(b, r), m.lose(b, r));
            } else if (dice < 28) {
                int c = random.nextBoolean() ? some(-9999, 9999) : some(-9, 9);
                same("shift(" + r + "," + c + ")", x.shift(r, c), m.shift(r, c));
            } else if (dice < 33) {
                int what = some(2, 3);
                int v = what == 2 ? some(0, random.nextBoolean() ? 9 : 99) : some(2, 6);
                same("set(" + what + "," + v + ")", x.set(what, v), m.set(what, v));
            } else if (dice < 36) {
                int k = some(0, 1);
                same("keep(" + k + ")", x.keep(k), m.keep(k));
            } else if (dice < 38) {
                int k = some(0, 1);
                same("back(" + k + ")", x.back(k), m.back(k));
            } else {
                int s = random.nextInt();
                int n = some(1, 7);
                same("draw(" + s + "," + n + ")", x.draw(s, n), m.draw(s, n));
            }
        }

        /** Near a line in b, so that there are lines of all kinds, and ties. */
        private int likely(int b, int r) {
            int step = Math.max(1, widest / 16);
            int t = (r % 3 + 1) * step * b / 2 + r + random.nextInt(random.nextBoolean() ? 1 : 4);
            return Math.max(0, Math.min(widest, t));
        }

        private void sheets() {
            int k = some(0, 3);
            int lane = some(0, 2);
            int dice = random.nextInt(10);
            if (dice < 2) {
                int n = some(0, 48);
                same("sheet(" + k + "," + lane + "," + n + ")", x.sheet(k, lane, n), m.sheet(k, lane, n));
            } else if (dice < 6) {
                int i = some(0, 20);
                int v = random.nextInt(3) == 0 ? random.nextInt() : some(-3, 9999);
                same("lay(" + k + "," + i + "," + v + ")", x.lay(k, i, v), m.lay(k, i, v));
            } else {
                int f = some(0, 20);
                int r = someClock();
                int n = some(0, random.nextBoolean() ? 3 : 16);
                String call = "read(" + k + "," + lane + "," + f + "," + r + "," + n + ")";
                same(call, x.read(k, lane, f, r, n), m.read(k, lane, f, r, n));
            }
        }

        private void ask() {
            int r = someClock();
            int s = someClock();
            String pair = "(" + r + "," + s + ",";
            switch (random.nextInt(14)) {
                case 0: { int w = some(0, 8); same("rule(" + w + ")", x.rule(w), m.rule(w)); break; }
                case 1: { int b = some(0, 15); same("stamp(" + b + "," + r + ")", x.stamp(b, r), m.stamp(b, r)); break; }
                case 2: { int w = some(0, 3); same("clock(" + r + "," + w + ")", x.clock(r, w), m.clock(r, w)); break; }
                case 3: { int w = some(0, 4); same("line" + pair + w + ")", x.line(r, s, w), m.line(r, s, w)); break; }
                case 4: { int w = some(0, 5); same("sum" + pair + w + ")", x.sum(r, s, w), m.sum(r, s, w)); break; }
                case 5: { int i = some(0, 9); same("struck" + pair + i + ")", x.struck(r, s, i), m.struck(r, s, i)); break; }
                case 6: { int b = some(0, 15); same("far" + pair + b + ")", x.far(r, s, b), m.far(r, s, b)); break; }
                case 7: same("cost" + pair + ")", x.cost(r, s), m.cost(r, s)); break;
                case 8: { int i = some(0, 4); same("chain" + pair + i + ")", x.chain(r, s, i), m.chain(r, s, i)); break; }
                case 9: { long v = someTime(r, s); same("taken" + pair + v + ")", x.taken(r, s, v), m.taken(r, s, v)); break; }
                case 10: { long v = someTime(r, s); same("there" + pair + v + ")", x.there(r, s, v), m.there(r, s, v)); break; }
                case 11: same("ok()", x.ok(), m.ok); break;
                case 12: { int w = some(0, 2); same("count(" + w + ")", x.count(w), m.count(w)); break; }
                default: same("fault()", x.fault(), m.fault); break;
            }
        }

        private void playText() {
            String text = someText();
            if (calls + text.length() + 3 > CALLS) {
                calls = CALLS;
                return;
            }
            for (int i = 0; i < text.length(); i++) {
                int c = text.charAt(i);
                same("feed(" + c + ")", x.feed(c), m.feed(c));
            }
            int n = some(0, m.tape.length());
            if (random.nextInt(6) == 0) {
                same("end(" + n + ")", x.end(n), m.end(n));
            }
            if (random.nextInt(12) != 0) {
                same("text()", x.text(), m.text());
                same("fault()", x.fault(), m.fault);
            }
        }

        private String someText() {
            StringBuilder text = new StringBuilder();
            int n = 1 + random.nextInt(7);
            text.append(gap(0)).append("clocks").append(gap(0)).append(n).append(gap(0)).append(';');
            int lines = random.nextInt(9);
            for (int i = 0; i < lines; i++) {
                int dice = random.nextInt(9);
                if (dice == 0) {
                    text.append(gap(0)).append("limit").append(gap(0)).append(some(0, 99) & 127);
                } else if (dice == 1) {
                    text.append(gap(0)).append("least").append(gap(0)).append(some(2, 6) & 7);
                } else {
                    text.append(gap(0)).append("hear").append(gap(0)).append(random.nextInt(16));
                    text.append(gap(1)).append(random.nextInt(40) == 0 ? n : random.nextInt(n));
                    text.append(gap(1)).append(random.nextInt(10000));
                }
                text.append(gap(0)).append(';');
            }
            text.append(gap(0));
            if (random.nextInt(2) == 0) {
                spoil(text);
            }
            return text.toString();
        }

        private String gap(int least) {
            return " ".repeat(least + (random.nextInt(3) == 0 ? random.nextInt(3) : 0));
        }

        private void spoil(StringBuilder text) {
            int at = random.nextInt(text.length());
            String signs = " ;;09az.\nclhear1";
            char c = random.nextInt(6) == 0 ? (char) random.nextInt(128) : signs.charAt(random.nextInt(signs.length()));
            switch (random.nextInt(4)) {
                case 0: text.setCharAt(at, c); break;
                case 1: text.deleteCharAt(at); break;
                case 2: text.insert(at, c); break;
                default: text.setLength(at); break;
            }
        }
    }

    /** In some states every call with all mixtures of its numbers' edges, each answer beside the model's. */
    private static final class Edges {
        static final int STATES = 5;
        private static final int LOW = Integer.MIN_VALUE, HIGH = Integer.MAX_VALUE;

        private interface Call {
            long of(BeaconLines x, Model m, long[] a, boolean byModel);
        }

        private final int state;
        private BeaconLines x;
        private Model m;
        private int calls;
        private int wrong;

        Edges(int state) {
            this.state = state;
            begin();
        }

        private void begin() {
            x = new BeaconLines();
            m = new Model();
            calls = 0;
            prepare();
        }

        /** A new object; one drawn; the most clocks; one with little in common; a full tape. */
        private void prepare() {
            int[] clocks = {1, 3, 7, 4, 2};
            if (state > 0) {
                did(x.draw(state * 31, clocks[state]), m.draw(state * 31, clocks[state]));
                did(x.keep(1), m.keep(1));
                did(x.set(2, 40), m.set(2, 40));
            }
            for (int k = 0; k < state && k < 3; k++) {
                did(x.sheet(k, k, 4 * k), m.sheet(k, k, 4 * k));
                did(x.lay(k, 2, 9999 + state % 2), m.lay(k, 2, 9999 + state % 2));
                did(x.lay(k, 1, -1), m.lay(k, 1, -1));
            }
            for (int b = 0; state == 3 && b < 12; b++) {
                did(x.lose(b, b % 4), m.lose(b, b % 4));
                did(x.hear(b, (b + 1) % 4, 9999 - b), m.hear(b, (b + 1) % 4, 9999 - b));
            }
            for (int i = 0; state == 4 && i < 300; i++) {
                did(x.feed(' '), m.feed(' '));
            }
        }

        private void did(long got, long want) {
            calls++;
            if (got != want) {
                wrong++;
                System.out.println("state " + state + ", preparing: " + got + ", due is " + want);
            }
        }

        int sweep() {
            int n = m.stamps.length;
            long[] clocks = {LOW, -1, 0, 1, n - 1, n, 7, HIGH};
            long[] beacons = {LOW, -1, 0, 1, 15, 16, HIGH};
            long[] whats = {LOW, -1, 0, 1, 2, 3, 4, 5, 6, 7, 8, 9, HIGH};
            long[] images = {LOW, -1, 0, 1, 2, HIGH};
            long[] sheets = {LOW, -1, 0, 1, 2, 3, 4, HIGH};
            long[] lanes = {LOW, -1, 0, 1, 2, 3, HIGH};
            long[] times = {Long.MIN_VALUE, Long.MIN_VALUE / 2, Long.MIN_VALUE / 16, -257, -1, 0, 1, 128, 999_999,
                Long.MAX_VALUE / 16, Long.MAX_VALUE / 2, Long.MAX_VALUE};
            long[] stamps = {LOW, -1, 0, 1, 9999, 10000, HIGH};
            long[] shifts = {LOW, -10000, -9999, -40, -1, 0, 1, 40, 9999, 10000, HIGH};
            long[] cells = {LOW, -65536, -1, 0, 9999, 10000, 32767, 32768, 65535, 65536, HIGH};
            try {
                each("feed", (x, m, a, by) -> by ? m.feed((int) a[0]) : x.feed((int) a[0]),
                    new long[] {LOW, -1, 0, 32, 127, 128, HIGH});
                each("end", (x, m, a, by) -> by ? m.end((int) a[0]) : x.end((int) a[0]),
                    new long[] {LOW, -1, 301, 300, 299, 1, 0, 1, HIGH});
                each("text", (x, m, a, by) -> by ? m.text() : x.text());
                each("fault", (x, m, a, by) -> by ? m.fault : x.fault());
                each("rule", (x, m, a, by) -> by ? m.rule((int) a[0]) : x.rule((int) a[0]), whats);
                each("count", (x, m, a, by) -> by ? m.count((int) a[0]) : x.count((int) a[0]), whats);
                each("stamp", (x, m, a, by) -> by ? m.stamp((int) a[0], (int) a[1]) : x.stamp((int) a[0], (int) a[1]),
                    beacons, clocks);
                each("clock", (x, m, a, by) -> by ? m.clock((int) a[0], (int) a[1]) : x.clock((int) a[0], (int) a[1]),
                    clocks, whats);
                each("line", (x, m, a, by) -> by ? m.line((int) a[0], (int) a[1], (int) a[2])
                    : x.line((int) a[0], (int) a[1], (int) a[2]), clocks, clocks, whats);
                each("sum", (x, m, a, by) -> by ? m.sum((int) a[0], (int) a[1], (int) a[2])
                    : x.sum((int) a[0], (int) a[1], (int) a[2]), clocks, clocks, whats);
                each("struck", (x, m, a, by) -> by ? m.struck((int) a[0], (int) a[1], (int) a[2])
                    : x.struck((int) a[0], (int) a[1], (int) a[2]), clocks, clocks, whats);
                each("far", (x, m, a, by) -> by ? m.far((int) a[0], (int) a[1], (int) a[2])
                    : x.far((int) a[0], (int) a[1], (int) a[2]), clocks, clocks, beacons);
                each("cost", (x, m, a, by) -> by ? m.cost((int) a[0], (int) a[1]) : x.cost((int) a[0], (int) a[1]),
                    clocks, clocks);
                each("chain", (x, m, a, by) -> by ? m.chain((int) a[0], (int) a[1], (int) a[2])
                    : x.chain((int) a[0], (int) a[1], (int) a[2]), clocks, clocks, whats);
                each("taken", (x, m, a, by) -> by ? m.taken((int) a[0], (int) a[1], a[2])
                    : x.taken((int) a[0], (int) a[1], a[2]), clocks, clocks, times);
                each("there", (x, m, a, by) -> by ? m.there((int) a[0], (int) a[1], a[2])
                    : x.there((int) a[0], (int) a[1], a[2]), clocks, clocks, times);
                each("ok", (x, m, a, by) -> by ? m.ok : x.ok());
                each("hear", (x, m, a, by) -> by ? m.hear((int) a[0], (int) a[1], (int) a[2])
                    : x.hear((int) a[0], (int) a[1], (int) a[2]), beacons, clocks, stamps);
                each("lose", (x, m, a, by) -> by ? m.lose((int) a[0], (int) a[1]) : x.lose((int) a[0], (int) a[1]),
                    beacons, clocks);
                each("shift", (x, m, a, by) -> by ? m.shift((int) a[0], (int) a[1]) : x.shift((int) a[0], (int) a[1]),
                    clocks, shifts);
                each("set", (x, m, a, by) -> by ? m.set((int) a[0], (int) a[1]) : x.set((int) a[0], (int) a[1]),
                    whats, new long[] {LOW, -1, 0, 1, 2, 6, 7, 99, 100, HIGH});
                each("draw", (x, m, a, by) -> by ? m.draw((int) a[0], (int) a[1]) : x.draw((int) a[0], (int) a[1]),
                    new long[] {LOW, -1, 0, 1, HIGH}, whats);
                each("keep", (x, m, a, by) -> by ? m.keep((int) a[0]) : x.keep((int) a[0]), images);
                each("back", (x, m, a, by) -> by ? m.back((int) a[0]) : x.back((int) a[0]), images);
                each("sheet", (x, m, a, by) -> by ? m.sheet((int) a[0], (int) a[1], (int) a[2])
                    : x.sheet((int) a[0], (int) a[1], (int) a[2]), sheets, lanes, new long[] {LOW, -1, 0, 1, 48, 49, HIGH});
                each("lay", (x, m, a, by) -> by ? m.lay((int) a[0], (int) a[1], (int) a[2])
                    : x.lay((int) a[0], (int) a[1], (int) a[2]), sheets, new long[] {LOW, -1, 0, 3, 4, 7, 8, 48, HIGH}, cells);
                each("read", (x, m, a, by) -> by ? m.read((int) a[0], (int) a[1], (int) a[2], (int) a[3], (int) a[4])
                    : x.read((int) a[0], (int) a[1], (int) a[2], (int) a[3], (int) a[4]), sheets, lanes,
                    new long[] {LOW, -1, 0, 1, 2, 3, 4, 8, HIGH - 1, HIGH}, clocks, new long[] {LOW, -1, 0, 1, 2, 16, 17, HIGH});
            } catch (RuntimeException thrown) {
                // No call may throw, whatever its numbers are.
                wrong++;
                System.out.println("state " + state + " threw " + thrown);
            }
            return wrong;
        }

        /** All mixtures, each by a counter whose figures are the places in the rows; behind each call a question. */
        private void each(String name, Call call, long[]... rows) {
            begin();
            int all = 1;
            for (long[] row : rows) {
                all *= row.length;
            }
            for (int i = 0; i < all && wrong < 5; i++) {
                if (calls > 500) {
                    begin();
                }
                long[] a = new long[rows.length];
                int rest = i;
                for (int j = 0; j < rows.length; j++) {
                    a[j] = rows[j][rest % rows[j].length];
                    rest /= rows[j].length;
                }
                compare(name + java.util.Arrays.toString(a), call.of(x, m, a, false), call.of(x, m, a, true));
                compare("ok() behind " + name, x.ok(), m.ok);
                int what = i % 4;
                compare("rule(" + what + ") behind " + name + java.util.Arrays.toString(a), x.rule(what), m.rule(what));
            }
        }

        private void compare(String call, long got, long want) {
            calls++;
            if (got != want) {
                wrong++;
                System.out.println("state " + state + ": " + call + " answered " + got + ", due is " + want);
            }
        }
    }

    /** The document, as plainly and as slowly as may be. */
    private static final class Model {
        private static final Pattern TOKEN = Pattern.compile(" *(?:([a-z]+)|([0-9]+)|(;)|([^ ])|$)");

        Integer[][] stamps = new Integer[1][16];
        int limit = 2, least = 3, ok = 0, fault = 0;
        final Model[] images = new Model[2];
        final long[][] cells = new long[4][];
        final int[] lanes = new int[4];
        String tape = "";

        // ---- the text

        int feed(int c) {
            if (c < 0 || c > 127) return BAD;
            if (tape.length() == 300) return FULL;
            tape += (char) c;
            return tape.length();
        }

        int end(int n) {
            if (n < 0 || n > tape.length()) return BAD;
            int had = tape.length();
            tape = tape.substring(0, n);
            return had;
        }

        /** What may stand at a place is told by the words read since the latest sign. */
        int text() {
            String all = tape;
            tape = "";
            Integer[][] draft = null;
            int[] told = {-1, -1};
            List<String> words = new ArrayList<>();
            boolean head = true;
            Matcher match = TOKEN.matcher(all);
            int at = 0;
            while (true) {
                if (!match.find(at)) throw new IllegalStateException();
                String name = match.group(1), number = match.group(2), sign = match.group(3);
                boolean over = name == null && number == null && sign == null && match.group(4) == null;
                int place = over ? all.length() : match.start(name != null ? 1 : number != null ? 2 : sign != null ? 3 : 4);
                if (match.group(4) != null || number != null && number.length() > 4) return faulty(1, place);
                int size = words.size();
                if (over) {
                    if (head || size > 0) return faulty(2, place);
                    break;
                }
                if (size == 0) {
                    boolean fits = head ? "clocks".equals(name) : name != null && name.matches("hear|limit|least");
                    if (!fits) return faulty(2, place);
                    if (name.equals("limit") && told[0] >= 0) return faulty(4, place);
                    if (name.equals("least") && told[1] >= 0) return faulty(4, place);
                    words.add(name);
                } else {
                    boolean hear = words.get(0).equals("hear");
                    int numbers = hear ? 3 : 1;
                    if (size <= numbers) {
                        if (number == null) return faulty(2, place);
                        int v = Integer.parseInt(number);
                        int clocks = draft == null ? 0 : draft.length;
                        boolean fits;
                        if (hear) fits = size == 1 ? v <= 15 : size == 2 ? v < clocks : v <= 9999;
                        else if (head) fits = v >= 1 && v <= 7;
                        else fits = words.get(0).equals("limit") ? v <= 99 : v >= 2 && v <= 6;
                        if (!fits) return faulty(3, place);
                        if (hear && size == 2 && draft[v][Integer.parseInt(words.get(1))] != null) return faulty(4, place);
                        words.add(number);
                    } else {
                        if (sign == null) return faulty(2, place);
                        int v = Integer.parseInt(words.get(1));
                        if (head) draft = new Integer[v][16];
                        else if (hear) draft[Integer.parseInt(words.get(2))][v] = Integer.valueOf(words.get(3));
                        else told[words.get(0).equals("limit") ? 0 : 1] = v;
                        head = false;
                        words.clear();
                    }
                }
                at = match.end();
            }
            fault = 0;
            stamps = draft;
            if (told[0] >= 0) limit = told[0];
            if (told[1] >= 0) least = told[1];
            images[0] = images[1] = null;
            return rule(1);
        }

        private int faulty(int which, int place) {
            fault = which;
            return -10 - place;
        }

        // ---- what there is

        boolean clk(int r) {
            return r >= 0 && r < stamps.length;
        }

        boolean bcn(int b) {
            return b >= 0 && b <= 15;
        }

        int rule(int what) {
            int n = stamps.length, found = 0;
            switch (what) {
                case 0: return n;
                case 2: return limit;
                case 3: return least;
                case 1: for (int r = 0; r < n; r++) found += clock(r, 0); return found;
                case 4: for (int r = 0; r < n; r++) found += clock(r, 1); return found;
                case 5: for (int r = 0; r < n; r++) for (int s = 0; s < n; s++) found += r != s && fit(r, s).kind == 1 ? 1 : 0; return found;
                case 6: for (int r = 0; r < n; r++) found += clock(r, 3) - 1; return found;
                case 7: for (int r = 0; r < n; r++) for (int s = 0; s < n; s++) found += r != s ? fit(r, s).struck.size() : 0; return found;
                case 8: for (int b = 0; b < 16; b++) { boolean any = false; for (Integer[] row : stamps) any |= row[b] != null; found += any ? 0 : 1; } return found;
                default: return BAD;
            }
        }

        int stamp(int b, int r) {
            return !bcn(b) || !clk(r) ? BAD : stamps[r][b] == null ? NONE : stamps[r][b];
        }

        int clock(int r, int what) {
            if (!clk(r) || what < 0 || what > 3) return BAD;
            int found = 0;
            if (what == 0) for (Integer t : stamps[r]) found += t != null ? 1 : 0;
            for (int s = 0; what > 0 && s < stamps.length; s++) {
                if (what == 1) found += r != s && fit(r, s).kind == 2 ? 1 : 0;
                if (what == 2) found += r != s && fit(s, r).kind == 2 ? 1 : 0;
                if (what == 3) found += best(r, s) != null ? 1 : 0;
            }
            return found;
        }

        // ---- lines

        static BigInteger big(long v) {
            return BigInteger.valueOf(v);
        }

        final class Fit {
            int kind, n, farthest = -1;
            BigInteger sx, sy, xx, xy, den, most;
            final List<Integer> struck = new ArrayList<>();
            final TreeMap<Integer, BigInteger[]> all = new TreeMap<>();

            Fit(int r, int s) {
                TreeMap<Integer, BigInteger[]> points = new TreeMap<>();
                for (int b = 0; b < 16; b++) {
                    if (stamps[r][b] != null && stamps[s][b] != null) {
                        points.put(b, new BigInteger[] {big(stamps[r][b]), big(stamps[s][b])});
                    }
                }
                all.putAll(points);
                while (true) {
                    n = points.size();
                    sx = sy = xx = xy = BigInteger.ZERO;
                    // By pairs: N times the sum of squares less the square of the sum is what all pairs differ, squared.
                    for (int a : points.keySet()) {
                        BigInteger[] p = points.get(a);
                        sx = sx.add(p[0]);
                        sy = sy.add(p[1]);
                        for (int c : points.keySet()) {
                            if (c > a) {
                                BigInteger dx = p[0].subtract(points.get(c)[0]);
                                BigInteger dy = p[1].subtract(points.get(c)[1]);
                                xx = xx.add(dx.multiply(dx));
                                xy = xy.add(dx.multiply(dy));
                            }
                        }
                    }
                    if (n < least || xx.signum() == 0) {
                        kind = 0;
                        return;
                    }
                    den = xx.multiply(big(n));
                    most = big(-1);
                    for (int b : points.keySet()) {
                        if (far(b).compareTo(most) > 0) {
                            most = far(b);
                            farthest = b;
                        }
                    }
                    if (most.compareTo(den.multiply(big(limit))) <= 0) {
                        kind = 2;
                        return;
                    }
                    if (n == least) {
                        kind = 1;
                        return;
                    }
                    struck.add(farthest);
                    points.remove(farthest);
                }
            }

            BigInteger far(int b) {
                BigInteger[] p = all.get(b);
                BigInteger up = p[1].multiply(big(n)).subtract(sy).multiply(xx);
                return up.subtract(p[0].multiply(big(n)).subtract(sx).multiply(xy)).abs();
            }

            long parts(BigInteger f) {
                BigInteger[] q = f.multiply(big(256)).divideAndRemainder(den);
                return q[0].longValueExact() + q[1].signum();
            }

            int cost() {
                return Math.toIntExact(parts(most) + 1);
            }

            /** null, if a number on the way is beyond 64 bits. */
            BigInteger take(BigInteger v) {
                BigInteger nv = v.multiply(big(n));
                BigInteger a = nv.subtract(sx.multiply(big(256)));
                BigInteger xya = xy.multiply(a);
                BigInteger b = xya.add(sy.multiply(xx).multiply(big(256)));
                for (BigInteger each : new BigInteger[] {nv, a, xya, b}) {
                    if (each.bitLength() > 63) return null;
                }
                // A half up is the floor of what is a half more.
                BigInteger twice = b.add(b).add(den);
                BigInteger[] q = twice.divideAndRemainder(den.add(den));
                return q[1].signum() < 0 ? q[0].subtract(BigInteger.ONE) : q[0];
            }
        }

        /** Kept until a stamp or a rule is another one, so that the model is not too slow. */
        private final java.util.Map<String, Fit> fits = new java.util.HashMap<>();

        Fit fit(int r, int s) {
            String key = limit + "," + least + java.util.Arrays.toString(stamps[r]) + java.util.Arrays.toString(stamps[s]);
            if (fits.size() > 200) fits.clear();
            return fits.computeIfAbsent(key, k -> new Fit(r, s));
        }

        boolean pair(int r, int s) {
            return clk(r) && clk(s) && r != s;
        }

        int line(int r, int s, int what) {
            if (!pair(r, s) || what < 0 || what > 4) return BAD;
            Fit f = fit(r, s);
            if (what == 0) return f.kind;
            if (what == 1) return f.kind == 0 ? 0 : f.n;
            if (what == 2) return f.struck.size();
            if (what == 3) return f.kind == 0 ? NONE : f.farthest;
            return f.kind == 2 ? f.cost() : NONE;
        }

        long sum(int r, int s, int what) {
            if (!pair(r, s) || what < 0 || what > 5) return BAD;
            Fit f = fit(r, s);
            if (f.kind == 0) return NONE;
            return new BigInteger[] {big(f.n), f.sx, f.sy, f.xx, f.xy, f.most}[what].longValueExact();
        }

        int struck(int r, int s, int i) {
            if (!pair(r, s) || i < 0) return BAD;
            List<Integer> gone = fit(r, s).struck;
            return i < gone.size() ? gone.get(i) : NONE;
        }

        long far(int r, int s, int b) {
            if (!pair(r, s) || !bcn(b)) return BAD;
            Fit f = fit(r, s);
            return f.kind == 0 || !f.all.containsKey(b) ? NONE : f.parts(f.far(b));
        }

        // ---- chains, times

        /** The best of all chains without a clock twice: cost, length, clocks, the first unlike deciding. */
        List<Integer> best(int r, int s) {
            int n = stamps.length;
            int[][] costs = new int[n][n];
            for (int a = 0; a < n; a++) for (int b = 0; b < n; b++) costs[a][b] = a != b && fit(a, b).kind == 2 ? fit(a, b).cost() : 0;
            List<Integer> way = new ArrayList<>(List.of(r));
            return search(s, way, null, costs);
        }

        private List<Integer> search(int s, List<Integer> way, List<Integer> best, int[][] costs) {
            int at = way.get(way.size() - 1);
            if (at == s) return best == null || less(way, best, costs) ? new ArrayList<>(way) : best;
            for (int next = costs.length - 1; next >= 0; next--) {
                if (costs[at][next] > 0 && !way.contains(next)) {
                    way.add(next);
                    best = search(s, way, best, costs);
                    way.remove(way.size() - 1);
                }
            }
            return best;
        }

        private static int costOf(List<Integer> way, int[][] costs) {
            int all = 0;
            for (int i = 0; i + 1 < way.size(); i++) all += costs[way.get(i)][way.get(i + 1)];
            return all;
        }

        private static boolean less(List<Integer> a, List<Integer> b, int[][] costs) {
            int c = Integer.compare(costOf(a, costs), costOf(b, costs));
            if (c == 0) c = Integer.compare(a.size(), b.size());
            for (int i = 0; c == 0 && i < a.size(); i++) c = Integer.compare(a.get(i), b.get(i));
            return c < 0;
        }

        int cost(int r, int s) {
            if (!clk(r) || !clk(s)) return BAD;
            List<Integer> way = best(r, s);
            if (way == null) return NONE;
            int all = 0;
            for (int i = 0; i + 1 < way.size(); i++) all += fit(way.get(i), way.get(i + 1)).cost();
            return all;
        }

        int chain(int r, int s, int i) {
            if (!clk(r) || !clk(s) || i < 0) return BAD;
            List<Integer> way = best(r, s);
            return way == null || i >= way.size() ? NONE : way.get(i);
        }

        private BigInteger along(List<Integer> way, BigInteger v) {
            for (int i = 0; v != null && i + 1 < way.size(); i++) v = fit(way.get(i), way.get(i + 1)).take(v);
            return v;
        }

        long taken(int r, int s, long v) {
            ok = 0;
            if (!clk(r) || !clk(s)) return BAD;
            if (best(r, s) == null) return STATE;
            BigInteger t = along(best(r, s), big(v));
            if (t == null) return FULL;
            ok = 1;
            return t.longValueExact();
        }

        long there(int r, int s, long v) {
            ok = 0;
            if (!clk(r) || !clk(s)) return BAD;
            if (best(r, s) == null || best(s, r) == null) return STATE;
            BigInteger t = along(best(s, r), along(best(r, s), big(v)));
            if (t == null || t.subtract(big(v)).bitLength() > 63) return FULL;
            ok = 1;
            return t.subtract(big(v)).longValueExact();
        }

        // ---- by hand

        int hear(int b, int r, int t) {
            if (!bcn(b) || !clk(r) || t < 0 || t > 9999) return BAD;
            int had = stamp(b, r);
            stamps[r][b] = t;
            return had;
        }

        int lose(int b, int r) {
            if (!bcn(b) || !clk(r)) return BAD;
            int had = stamp(b, r);
            stamps[r][b] = null;
            return had;
        }

        int shift(int r, int c) {
            if (!clk(r) || c < -9999 || c > 9999) return BAD;
            for (Integer t : stamps[r]) if (t != null && (t + c < 0 || t + c > 9999)) return STATE;
            for (int b = 0; b < 16; b++) if (stamps[r][b] != null) stamps[r][b] += c;
            return clock(r, 0);
        }

        int set(int what, int v) {
            int was = what == 2 ? limit : least;
            if (what == 2 && v >= 0 && v <= 99) limit = v;
            else if (what == 3 && v >= 2 && v <= 6) least = v;
            else return BAD;
            return was;
        }

        private int seed;

        private int get() {
            seed = seed * 1103515245 + 12345;
            return (seed >> 16) & 32767;
        }

        int draw(int first, int n) {
            if (n < 1 || n > 7) return BAD;
            seed = first;
            stamps = new Integer[n][16];
            int[][] own = new int[n][];
            for (int r = 0; r < n; r++) {
                int offset = get() % 500;
                own[r] = new int[] {offset, get() % 5};
            }
            for (int b = 0; b < 16; b++) {
                for (int r = 0; r < n; r++) {
                    int a = get(), bb = get(), c = get();
                    if (a % 4 != 0) stamps[r][b] = own[r][0] + 40 * (b + 1) + own[r][1] * b + bb % 3 + (c % 9 == 0 ? 97 : 0);
                }
            }
            return rule(1);
        }

        // ---- images, sheets

        private void copyTo(Model other) {
            other.stamps = new Integer[stamps.length][];
            for (int r = 0; r < stamps.length; r++) other.stamps[r] = stamps[r].clone();
            other.limit = limit;
            other.least = least;
        }

        int keep(int k) {
            if (k != 0 && k != 1) return BAD;
            int was = images[k] == null ? 0 : 1;
            images[k] = new Model();
            copyTo(images[k]);
            return was;
        }

        int back(int k) {
            if (k != 0 && k != 1) return BAD;
            if (images[k] == null) return STATE;
            images[k].copyTo(this);
            return rule(1);
        }

        int sheet(int k, int lane, int n) {
            if (k < 0 || k > 3 || lane < 0 || lane > 2 || n > 48) return BAD;
            if (n < 0) return -14;
            cells[k] = new long[n];
            lanes[k] = lane;
            return 1;
        }

        int lay(int k, int i, int v) {
            if (k < 0 || k > 3) return BAD;
            if (cells[k] == null) return -11;
            if (i < 0 || i >= cells[k].length) return -13;
            cells[k][i] = lanes[k] == 0 ? (short) v : v;
            return 1;
        }

        int read(int k, int lane, int f, int r, int n) {
            if (k < 0 || k > 3 || lane < 0 || lane > 2 || !clk(r) || n < 0 || n > 16) return BAD;
            if (n == 0) return 0;
            if (cells[k] == null) return -11;
            if (lanes[k] != lane) return -12;
            Integer[] row = stamps[r].clone();
            for (int i = 0; i < n; i++) {
                long at = (long) f + i;
                if (at < 0 || at >= cells[k].length) return -13;
                long v = cells[k][(int) at];
                if (v > 9999) return -20 - i;
                row[i] = v < 0 ? null : (Integer) (int) v;
            }
            stamps[r] = row;
            return n;
        }

        int count(int what) {
            if (what == 0) return (images[0] == null ? 0 : 1) + (images[1] == null ? 0 : 1);
            if (what == 1) return tape.length();
            if (what == 2) return cells[0] == null ? NONE : cells[0].length;
            return BAD;
        }
    }
}
