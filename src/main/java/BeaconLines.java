import java.util.Arrays;

/** Clocks set by hearing the same beacons; the document's promises are named by number. */
public final class BeaconLines {
    public static final int BAD = -1, STATE = -2, FULL = -3, NONE = -4;

    private static final int MOST_CLOCKS = 7;
    private static final int BEACONS = 16;
    private static final int HIGHEST_STAMP = 9999;
    private static final int HIGHEST_LIMIT = 99;
    private static final int LOWEST_LEAST = 2;
    private static final int HIGHEST_LEAST = 6;
    private static final int IMAGES = 2;
    private static final int SHEETS = 4;
    private static final int LANES = 3;
    private static final int MOST_CELLS = 48;
    private static final int PARTS = 256;

    private static final int NO_LINE = 0;
    private static final int POOR = 1;
    private static final int GOOD = 2;

    private static final int NULL_FAULT = -11;
    private static final int CAST_FAULT = -12;
    private static final int INDEX_FAULT = -13;
    private static final int SIZE_FAULT = -14;

    private final TextReader textReader = new TextReader();
    private final Tape tape = textReader.tape;
    private final Web web = new Web();
    private final Book book = web.book;
    private final Chains chains = new Chains();
    private final Drawer drawer = new Drawer();
    private final Time time = new Time();
    private final Book[] images = new Book[IMAGES];
    private final boolean[] kept = new boolean[IMAGES];
    private final Sheet[] sheets = new Sheet[SHEETS];
    private int latestFault;
    private int latestTaken;

    /** Promise 1. */
    public BeaconLines() {
        for (int k = 0; k < IMAGES; k++) {
            images[k] = new Book();
        }
        for (int k = 0; k < SHEETS; k++) {
            sheets[k] = new Sheet();
        }
    }

    // ---- the text

    /** Promise 2. */
    public int feed(int c) {
        if (c < 0 || c > 127) {
            return BAD;
        }
        return tape.append(c) ? tape.length : FULL;
    }

    /** Promise 3. */
    public int end(int n) {
        if (n < 0 || n > tape.length) {
            return BAD;
        }
        int had = tape.length;
        tape.length = n;
        return had;
    }

    /** Promise 4. */
    public int text() {
        boolean good = textReader.readAll(book);
        tape.length = 0;
        latestFault = textReader.faultKind;
        if (!good) {
            return -10 - textReader.faultPlace;
        }
        book.copyFrom(textReader.draft);
        web.touchAll();
        dropImages();
        return book.allStamps();
    }

    private void dropImages() {
        for (int k = 0; k < IMAGES; k++) {
            kept[k] = false;
        }
    }

    /** Promise 5. */
    public int fault() {
        return latestFault;
    }

    // ---- what there is

    /** Promise 6. */
    public int rule(int what) {
        switch (what) {
            case 0: return book.clocks;
            case 1: return book.allStamps();
            case 2: return book.limit;
            case 3: return book.least;
            case 4: return web.linesOfKind(GOOD);
            case 5: return web.linesOfKind(POOR);
            case 6: return freshChains().reachingPairs();
            case 7: return web.allStrikes();
            case 8: return book.unheardBeacons();
            default: return BAD;
        }
    }

    /** Promise 7. */
    public int stamp(int b, int r) {
        if (!isBeacon(b) || !book.hasClock(r)) {
            return BAD;
        }
        return book.stampAt(b, r);
    }

    /** Promise 8. */
    public int clock(int r, int what) {
        if (!book.hasClock(r)) {
            return BAD;
        }
        switch (what) {
            case 0: return book.stampsOf(r);
            case 1: return web.goodLinesFrom(r);
            case 2: return web.goodLinesTo(r);
            case 3: return freshChains().reachedFrom(r);
            default: return BAD;
        }
    }

    // ---- lines

    /** Promise 9. */
    public int line(int r, int s, int what) {
        if (!isPair(r, s) || what < 0 || what > 4) {
            return BAD;
        }
        Line line = web.lineOf(r, s);
        switch (what) {
            case 0: return line.kind;
            case 1: return line.kind == NO_LINE ? 0 : line.points;
            case 2: return line.strikes;
            case 3: return line.kind == NO_LINE ? NONE : line.farthest;
            default: return line.kind == GOOD ? line.costOfGood() : NONE;
        }
    }

    /** Promise 10. */
    public long sum(int r, int s, int what) {
        if (!isPair(r, s) || what < 0 || what > 5) {
            return BAD;
        }
        Line line = web.lineOf(r, s);
        if (line.kind == NO_LINE) {
            return NONE;
        }
        switch (what) {
            case 0: return line.points;
            case 1: return line.x;
            case 2: return line.y;
            case 3: return line.xx;
            case 4: return line.xy;
            default: return line.farthestFar;
        }
    }

    /** Promise 11. */
    public int struck(int r, int s, int i) {
        if (!isPair(r, s) || i < 0) {
            return BAD;
        }
        Line line = web.lineOf(r, s);
        return i < line.strikes ? line.struckBeacons[i] : NONE;
    }

    /** Promise 12. */
    public long far(int r, int s, int b) {
        if (!isPair(r, s) || !isBeacon(b)) {
            return BAD;
        }
        Line line = web.lineOf(r, s);
        int x = book.stampAt(b, r);
        int y = book.stampAt(b, s);
        if (line.kind == NO_LINE || x == NONE || y == NONE) {
            return NONE;
        }
        return line.partsUp(line.farOf(x, y));
    }

    // ---- chains, times

    /** Promise 13. */
    public int cost(int r, int s) {
        if (!book.hasClock(r) || !book.hasClock(s)) {
            return BAD;
        }
        freshChains().aimAt(s);
        return chains.reachesAim(r) ? chains.costToAim(r) : NONE;
    }

    /** Promise 14. */
    public int chain(int r, int s, int i) {
        if (!book.hasClock(r) || !book.hasClock(s) || i < 0) {
            return BAD;
        }
        freshChains().aimAt(s);
        if (!chains.reachesAim(r) || i > chains.hopsToAim(r)) {
            return NONE;
        }
        int at = r;
        for (int hop = 0; hop < i; hop++) {
            at = chains.nextToAim(at);
        }
        return at;
    }

    /** Promise 15. */
    public long taken(int r, int s, long v) {
        latestTaken = 0;
        if (!book.hasClock(r) || !book.hasClock(s)) {
            return BAD;
        }
        if (!freshChains().reaches(r, s)) {
            return STATE;
        }
        time.startAt(v);
        takeAlong(r, s);
        return toldTime();
    }

    /** Promise 16. */
    public int ok() {
        return latestTaken;
    }

    /** Promise 17. */
    public long there(int r, int s, long v) {
        latestTaken = 0;
        if (!book.hasClock(r) || !book.hasClock(s)) {
            return BAD;
        }
        if (!freshChains().reaches(r, s) || !chains.reaches(s, r)) {
            return STATE;
        }
        time.startAt(v);
        takeAlong(r, s);
        takeAlong(s, r);
        time.subtract(v);
        return toldTime();
    }

    /** Takes the TIME along THE CHAIN from r to s, which r REACHES. */
    private void takeAlong(int r, int s) {
        chains.aimAt(s);
        int at = r;
        for (int hop = 0; hop < MOST_CLOCKS && at != s; hop++) {
            int next = chains.nextToAim(at);
            time.takeBy(web.lineOf(at, next));
            at = next;
        }
    }

    private Chains freshChains() {
        chains.renew(web);
        return chains;
    }

    private long toldTime() {
        if (time.lost) {
            return FULL;
        }
        latestTaken = 1;
        return time.value;
    }

    // ---- by hand

    /** Promise 18. */
    public int hear(int b, int r, int t) {
        if (!isBeacon(b) || !book.hasClock(r) || t < 0 || t > HIGHEST_STAMP) {
            return BAD;
        }
        return replaceStamp(b, r, t);
    }

    /** Promise 19. */
    public int lose(int b, int r) {
        if (!isBeacon(b) || !book.hasClock(r)) {
            return BAD;
        }
        return replaceStamp(b, r, NONE);
    }

    private int replaceStamp(int b, int r, int t) {
        int had = book.stampAt(b, r);
        book.putStamp(b, r, t);
        web.touch(r);
        return had;
    }

    /** Promise 20. */
    public int shift(int r, int c) {
        if (!book.hasClock(r) || c < -HIGHEST_STAMP || c > HIGHEST_STAMP) {
            return BAD;
        }
        if (!book.canMove(r, c)) {
            return STATE;
        }
        web.touch(r);
        return book.moveStamps(r, c);
    }

    /** Promise 21. */
    public int set(int what, int v) {
        if (what == 2 && isLimit(v)) {
            int was = book.limit;
            book.limit = v;
            web.touchAll();
            return was;
        }
        if (what == 3 && isLeast(v)) {
            int was = book.least;
            book.least = v;
            web.touchAll();
            return was;
        }
        return BAD;
    }

    /** Promise 22. */
    public int draw(int seed, int n) {
        if (!isClockCount(n)) {
            return BAD;
        }
        drawer.fill(book, seed, n);
        web.touchAll();
        return book.allStamps();
    }

    // ---- images, sheets

    /** Promise 23. */
    public int keep(int k) {
        if (!isImage(k)) {
            return BAD;
        }
        int was = kept[k] ? 1 : 0;
        images[k].copyFrom(book);
        kept[k] = true;
        return was;
    }

    /** Promise 24. */
    public int back(int k) {
        if (!isImage(k)) {
            return BAD;
        }
        if (!kept[k]) {
            return STATE;
        }
        book.copyFrom(images[k]);
        web.touchAll();
        return book.allStamps();
    }

    /** Promise 25. */
    public int sheet(int k, int lane, int n) {
        if (!isSheet(k) || !isLane(lane) || n > MOST_CELLS) {
            return BAD;
        }
        if (n < 0) {
            return SIZE_FAULT;
        }
        sheets[k].renew(lane, n);
        return 1;
    }

    /** Promise 26. */
    public int lay(int k, int i, int v) {
        if (!isSheet(k)) {
            return BAD;
        }
        Sheet sheet = sheets[k];
        if (sheet.isNothing()) {
            return NULL_FAULT;
        }
        if (!sheet.hasCell(i)) {
            return INDEX_FAULT;
        }
        sheet.putCell(i, v);
        return 1;
    }

    /** Promise 27. */
    public int read(int k, int lane, int f, int r, int n) {
        if (!isSheet(k) || !isLane(lane) || !book.hasClock(r) || n < 0 || n > BEACONS) {
            return BAD;
        }
        if (n == 0) {
            return 0;
        }
        Sheet sheet = sheets[k];
        int wrong = sheet.firstFault(lane, f, n);
        if (wrong != 0) {
            return wrong;
        }
        for (int i = 0; i < n; i++) {
            book.putStamp(i, r, sheet.stampIn(f + i));
        }
        web.touch(r);
        return n;
    }

    /** Promise 28. */
    public int count(int what) {
        switch (what) {
            case 0: return keptImages();
            case 1: return tape.length;
            case 2: return sheets[0].isNothing() ? NONE : sheets[0].size;
            default: return BAD;
        }
    }

    private int keptImages() {
        int found = 0;
        for (int k = 0; k < IMAGES; k++) {
            if (kept[k]) {
                found++;
            }
        }
        return found;
    }

    // ---- bounds

    private boolean isPair(int r, int s) {
        return book.hasClock(r) && book.hasClock(s) && r != s;
    }

    private static boolean isBeacon(int b) {
        return b >= 0 && b < BEACONS;
    }

    private static boolean isClockCount(int n) {
        return n >= 1 && n <= MOST_CLOCKS;
    }

    private static boolean isLimit(int v) {
        return v >= 0 && v <= HIGHEST_LIMIT;
    }

    private static boolean isLeast(int v) {
        return v >= LOWEST_LEAST && v <= HIGHEST_LEAST;
    }

    private static boolean isImage(int k) {
        return k >= 0 && k < IMAGES;
    }

    private static boolean isSheet(int k) {
        return k >= 0 && k < SHEETS;
    }

    private static boolean isLane(int lane) {
        return lane >= 0 && lane < LANES;
    }

    /** CLOCKS, STAMPS, LIMIT, LEAST: what a text tells and an IMAGE holds. */
    private static final class Book {
        int clocks = 1;
        int limit = 2;
        int least = 3;
        // CLOCK by CLOCK, a place for each BEACON; NONE where it was not heard.
        private final int[] stamps = new int[MOST_CLOCKS * BEACONS];

        Book() {
            Arrays.fill(stamps, NONE);
        }

        boolean hasClock(int r) {
            return r >= 0 && r < clocks;
        }

        int stampAt(int b, int r) {
            return stamps[r * BEACONS + b];
        }

        void putStamp(int b, int r, int t) {
            stamps[r * BEACONS + b] = t;
        }

        void startWith(int howMany) {
            clocks = howMany;
            Arrays.fill(stamps, NONE);
        }

        void copyFrom(Book other) {
            clocks = other.clocks;
            limit = other.limit;
            least = other.least;
            System.arraycopy(other.stamps, 0, stamps, 0, stamps.length);
        }

        int stampsOf(int r) {
            int found = 0;
            for (int b = 0; b < BEACONS; b++) {
                if (stampAt(b, r) != NONE) {
                    found++;
                }
            }
            return found;
        }

        int allStamps() {
            int found = 0;
            for (int r = 0; r < clocks; r++) {
                found += stampsOf(r);
            }
            return found;
        }

        int unheardBeacons() {
            int found = 0;
            for (int b = 0; b < BEACONS; b++) {
                if (!isHeard(b)) {
                    found++;
                }
            }
            return found;
        }

        private boolean isHeard(int b) {
            for (int r = 0; r < clocks; r++) {
                if (stampAt(b, r) != NONE) {
                    return true;
                }
            }
            return false;
        }

        /** The BEACONS that both heard, a bit each. */
        int heardByBoth(int r, int s) {
            int bits = 0;
            for (int b = 0; b < BEACONS; b++) {
                if (stampAt(b, r) != NONE && stampAt(b, s) != NONE) {
                    bits |= 1 << b;
                }
            }
            return bits;
        }

        boolean canMove(int r, int c) {
            for (int b = 0; b < BEACONS; b++) {
                int t = stampAt(b, r);
                if (t != NONE && (t + c < 0 || t + c > HIGHEST_STAMP)) {
                    return false;
                }
            }
            return true;
        }

        int moveStamps(int r, int c) {
            int moved = 0;
            for (int b = 0; b < BEACONS; b++) {
                int t = stampAt(b, r);
                if (t != NONE) {
                    putStamp(b, r, t + c);
                    moved++;
                }
            }
            return moved;
        }
    }

    /** THE LINE from one CLOCK to another. Every number here stays below 10 to the 18th. */
    private static final class Line {
        private static final int UNSETTLED = -1;

        int fittedAt;
        int kind;
        int points;
        long x;
        long y;
        long xx;
        long xy;
        long den;
        int farthest;
        long farthestFar;
        int strikes;
        final int[] struckBeacons = new int[BEACONS];
        private int left;

        void fit(Book book, int r, int s) {
            left = book.heardByBoth(r, s);
            strikes = 0;
            kind = UNSETTLED;
            // Each fit but the last strikes a POINT, and 16 is the most there are.
            for (int i = 0; i <= BEACONS && kind == UNSETTLED; i++) {
                sumUp(book, r, s);
                findFarthest(book, r, s);
                kind = judge(book.limit, book.least);
                if (kind == UNSETTLED) {
                    strikeFarthest();
                }
            }
        }

        private int judge(long limit, int least) {
            if (points < least || xx == 0) {
                return NO_LINE;
            }
            if (farthestFar <= limit * den) {
                return GOOD;
            }
            return points == least ? POOR : UNSETTLED;
        }

        private void strikeFarthest() {
            if (farthest >= 0 && strikes < BEACONS) {
                struckBeacons[strikes] = farthest;
                strikes++;
                left &= ~(1 << farthest);
            }
        }

        private void sumUp(Book book, int r, int s) {
            points = Integer.bitCount(left);
            x = 0;
            y = 0;
            long squares = 0;
            long products = 0;
            for (int b = 0; b < BEACONS; b++) {
                if (isLeft(b)) {
                    long px = book.stampAt(b, r);
                    long py = book.stampAt(b, s);
                    x += px;
                    y += py;
                    squares += px * px;
                    products += px * py;
                }
            }
            xx = points * squares - x * x;
            xy = points * products - x * y;
            den = points * xx;
        }

        private void findFarthest(Book book, int r, int s) {
            farthest = NONE;
            farthestFar = -1;
            for (int b = 0; b < BEACONS; b++) {
                if (isLeft(b)) {
                    long f = farOf(book.stampAt(b, r), book.stampAt(b, s));
                    if (f > farthestFar) {
                        farthest = b;
                        farthestFar = f;
                    }
                }
            }
        }

        private boolean isLeft(int b) {
            return (left >> b & 1) == 1;
        }

        long farOf(long px, long py) {
            long f = py * den - y * xx - xy * (points * px - x);
            return f < 0 ? -f : f;
        }

        /** A FAR by DEN in 256ths, up. */
        long partsUp(long f) {
            return den == 0 ? 0 : (PARTS * f + den - 1) / den;
        }

        /** LIMIT keeps the FAR of a GOOD LINE so low that an int holds it. */
        int costOfGood() {
            return (int) partsUp(farthestFar) + 1;
        }
    }

    /** What there is, and all LINES by it, fitted when they are asked for. */
    private static final class Web {
        final Book book = new Book();
        private final Line[] lines = new Line[MOST_CLOCKS * MOST_CLOCKS];
        // When each CLOCK last changed: a LINE fitted before that is stale.
        private final int[] touchedAt = new int[MOST_CLOCKS];
        private int now;

        Web() {
            for (int i = 0; i < lines.length; i++) {
                lines[i] = new Line();
            }
            now = 1;
            Arrays.fill(touchedAt, now);
        }

        void touch(int r) {
            now++;
            touchedAt[r] = now;
        }

        void touchAll() {
            now++;
            Arrays.fill(touchedAt, now);
        }

        Line lineOf(int r, int s) {
            Line line = lines[r * MOST_CLOCKS + s];
            if (line.fittedAt < touchedAt[r] || line.fittedAt < touchedAt[s]) {
                line.fit(book, r, s);
                line.fittedAt = now;
            }
            return line;
        }

        boolean isKind(int r, int s, int kind) {
            return r != s && lineOf(r, s).kind == kind;
        }

        int linesOfKind(int kind) {
            int found = 0;
            for (int r = 0; r < book.clocks; r++) {
                for (int s = 0; s < book.clocks; s++) {
                    if (isKind(r, s, kind)) {
                        found++;
                    }
                }
            }
            return found;
        }

        int goodLinesFrom(int r) {
            int found = 0;
            for (int s = 0; s < book.clocks; s++) {
                if (isKind(r, s, GOOD)) {
                    found++;
                }
            }
            return found;
        }

        int goodLinesTo(int s) {
            int found = 0;
            for (int r = 0; r < book.clocks; r++) {
                if (isKind(r, s, GOOD)) {
                    found++;
                }
            }
            return found;
        }

        int allStrikes() {
            int found = 0;
            for (int r = 0; r < book.clocks; r++) {
                for (int s = 0; s < book.clocks; s++) {
                    if (r != s) {
                        found += lineOf(r, s).strikes;
                    }
                }
            }
            return found;
        }
    }

    /** The best CHAINS from every CLOCK to one of them, the aim. */
    private static final class Chains {
        // A CHAIN's WEIGHT is its COST, and in the 3 lowest bits how many LINES it has (at most 6),
        // so that of like COST that of fewer LINES weighs less.
        private static final int COUNT_BITS = 3;
        private static final int COUNT_MASK = 7;

        private int clocks;
        private int aim;
        // From CLOCK to CLOCK the WEIGHT of the GOOD LINE, or NONE.
        private final int[] lineWeights = new int[MOST_CLOCKS * MOST_CLOCKS];
        // From each CLOCK the WEIGHT of the best CHAIN to the aim, or NONE.
        private final int[] weights = new int[MOST_CLOCKS];

        /** Takes the LINES as they are now; wanted before the CHAINS are asked for. */
        void renew(Web web) {
            clocks = web.book.clocks;
            for (int r = 0; r < clocks; r++) {
                for (int s = 0; s < clocks; s++) {
                    boolean other = r != s;
                    lineWeights[r * MOST_CLOCKS + s] = other ? weightOf(web.lineOf(r, s)) : NONE;
                }
            }
        }

        private static int weightOf(Line line) {
            return line.kind == GOOD ? (line.costOfGood() << COUNT_BITS) + 1 : NONE;
        }

        int reachingPairs() {
            int found = 0;
            for (int s = 0; s < clocks; s++) {
                aimAt(s);
                for (int r = 0; r < clocks; r++) {
                    if (r != s && reachesAim(r)) {
                        found++;
                    }
                }
            }
            return found;
        }

        int reachedFrom(int r) {
            int found = 0;
            for (int s = 0; s < clocks; s++) {
                if (reaches(r, s)) {
                    found++;
                }
            }
            return found;
        }

        boolean reaches(int r, int s) {
            aimAt(s);
            return reachesAim(r);
        }

        /** Weighs the best CHAINS to s; what is asked about the aim is answered by that. */
        void aimAt(int s) {
            aim = s;
            Arrays.fill(weights, NONE);
            weights[s] = 0;
            boolean better = true;
            // No best CHAIN has more LINES than there are CLOCKS.
            for (int round = 0; better && round < MOST_CLOCKS; round++) {
                better = false;
                for (int r = 0; r < clocks; r++) {
                    if (improve(r)) {
                        better = true;
                    }
                }
            }
        }

        private boolean improve(int r) {
            boolean better = false;
            for (int next = 0; next < clocks; next++) {
                int weight = weightBy(r, next);
                if (weight != NONE && (weights[r] == NONE || weight < weights[r])) {
                    weights[r] = weight;
                    better = true;
                }
            }
            return better;
        }

        /** What the CHAIN from r to the aim weighs if it goes to next first, or NONE. */
        private int weightBy(int r, int next) {
            int first = lineWeights[r * MOST_CLOCKS + next];
            return first == NONE || weights[next] == NONE ? NONE : first + weights[next];
        }

        boolean reachesAim(int r) {
            return weights[r] != NONE;
        }

        int costToAim(int r) {
            return weights[r] >> COUNT_BITS;
        }

        int hopsToAim(int r) {
            return weights[r] & COUNT_MASK;
        }

        /** The CLOCK behind r on THE CHAIN to the aim: of like ones the least. */
        int nextToAim(int r) {
            for (int next = 0; next < clocks; next++) {
                if (weightBy(r, next) == weights[r]) {
                    return next;
                }
            }
            return aim;
        }
    }

    /** A TIME on its way: lost, once a number on the way is beyond 64 bits. */
    private static final class Time {
        long value;
        boolean lost;

        void startAt(long v) {
            value = v;
            lost = false;
        }

        void takeBy(Line line) {
            long a = difference(product(line.points, value), PARTS * line.x);
            long b = total(product(line.xy, a), PARTS * line.y * line.xx);
            value = nearest(b, line.den);
        }

        void subtract(long v) {
            value = difference(value, v);
        }

        /** a is N or XY: far from the ends, so that dividing tells whether p is right. */
        private long product(long a, long b) {
            long p = a * b;
            if (b != 0 && p / b != a) {
                lost = true;
            }
            return p;
        }

        private long total(long a, long b) {
            long t = a + b;
            // Only two of like sign can pass the end, and then the sign of t is the other.
            if (((a ^ t) & (b ^ t)) < 0) {
                lost = true;
            }
            return t;
        }

        private long difference(long a, long b) {
            long d = a - b;
            // Only two of unlike sign can pass the end, and then the sign of d is b's.
            if (((a ^ b) & (a ^ d)) < 0) {
                lost = true;
            }
            return d;
        }

        private static long nearest(long b, long den) {
            if (den <= 0) {
                return 0;
            }
            long below = Math.floorDiv(b, den);
            long rest = Math.floorMod(b, den);
            return rest >= den - rest ? below + 1 : below;
        }
    }

    /** Tells CLOCKS and STAMPS by a seed. */
    private static final class Drawer {
        private final int[] offsets = new int[MOST_CLOCKS];
        private final int[] skews = new int[MOST_CLOCKS];
        private int seed;

        void fill(Book book, int firstSeed, int n) {
            seed = firstSeed;
            book.startWith(n);
            for (int r = 0; r < n; r++) {
                offsets[r] = next() % 500;
                skews[r] = next() % 5;
            }
            for (int b = 0; b < BEACONS; b++) {
                for (int r = 0; r < n; r++) {
                    book.putStamp(b, r, stampBySeed(b, r));
                }
            }
        }

        private int stampBySeed(int beacon, int r) {
            int a = next();
            int b = next();
            int c = next();
            if (a % 4 == 0) {
                return NONE;
            }
            int stray = c % 9 == 0 ? 97 : 0;
            return offsets[r] + 40 * (beacon + 1) + skews[r] * beacon + b % 3 + stray;
        }

        private int next() {
            seed = seed * 1103515245 + 12345;
            return seed >>> 16 & 0x7FFF;
        }
    }

    /** A row of CELLS of a lane, or nothing. */
    private static final class Sheet {
        private static final int NOTHING = -1;
        private static final int SHORTS = 0;

        int size = NOTHING;
        private int lane;
        private final long[] cells = new long[MOST_CELLS];

        boolean isNothing() {
            return size == NOTHING;
        }

        void renew(int newLane, int newSize) {
            lane = newLane;
            size = newSize;
            Arrays.fill(cells, 0);
        }

        boolean hasCell(int i) {
            return i >= 0 && i < size;
        }

        void putCell(int i, int v) {
            cells[i] = lane == SHORTS ? (short) v : v;
        }

        /** What keeps n CELLS from f on from being STAMPS: the answer that tells it, or 0. */
        int firstFault(int asLane, int f, int n) {
            if (isNothing()) {
                return NULL_FAULT;
            }
            if (asLane != lane) {
                return CAST_FAULT;
            }
            for (int i = 0; i < n; i++) {
                if (!hasCell(f + i)) {
                    return INDEX_FAULT;
                }
                if (cells[f + i] > HIGHEST_STAMP) {
                    return -20 - i;
                }
            }
            return 0;
        }

        /** CELL i, at most 9999, as a STAMP, or NONE. */
        int stampIn(int i) {
            return cells[i] < 0 ? NONE : (int) cells[i];
        }
    }

    /** THE TAPE. */
    private static final class Tape {
        private static final int MOST_BYTES = 300;

        int length;
        private final byte[] bytes = new byte[MOST_BYTES];

        boolean append(int c) {
            if (length >= MOST_BYTES) {
                return false;
            }
            bytes[length] = (byte) c;
            length++;
            return true;
        }

        /** The byte at a place; 0 at the end, which is part of no TOKEN. */
        int byteAt(int place) {
            return place >= 0 && place < length ? bytes[place] : 0;
        }

        /** The place behind the bytes from a place on that are lowest to highest. */
        int behindRun(int from, int lowest, int highest) {
            for (int place = from; place >= 0 && place < length; place++) {
                if (bytes[place] < lowest || bytes[place] > highest) {
                    return place;
                }
            }
            return length;
        }
    }

    /** Reads THE TAPE into a draft, TOKEN by TOKEN, up to its first FAULT. */
    private static final class TextReader {
        private static final int END = 0, NAME = 1, NUMBER = 2, SIGN = 3;
        private static final int MOST_FIGURES = 4;
        private static final int NO_TOKEN = 1, MISPLACED = 2, OUT_OF_BOUNDS = 3, TOLD_TWICE = 4;

        final Tape tape = new Tape();
        final Book draft = new Book();
        int faultKind;
        int faultPlace;
        private boolean limitTold;
        private boolean leastTold;
        // The latest TOKEN: its kind, its first place, the place behind it, its value if a NUMBER.
        private int kind;
        private int first;
        private int behind;
        private int value;

        /** Whether all was taken; what the text does not tell of LIMIT, LEAST stays as it was. */
        boolean readAll(Book before) {
            startOver(before);
            boolean more = takeHead();
            // Each line takes a byte at least.
            for (int i = 0; more && i <= Tape.MOST_BYTES; i++) {
                more = nextToken() && kind != END && takeLine();
            }
            return faultKind == 0;
        }

        private void startOver(Book before) {
            draft.startWith(1);
            draft.limit = before.limit;
            draft.least = before.least;
            limitTold = false;
            leastTold = false;
            faultKind = 0;
            faultPlace = 0;
            behind = 0;
        }

        private boolean takeHead() {
            if (!nextToken()) {
                return false;
            }
            if (!isName("clocks")) {
                return refuse(MISPLACED);
            }
            if (!takeNumber(1, MOST_CLOCKS)) {
                return false;
            }
            draft.clocks = value;
            return takeSign();
        }

        private boolean takeLine() {
            if (isName("hear")) {
                return takeHear();
            }
            if (isName("limit")) {
                return takeLimit();
            }
            if (isName("least")) {
                return takeLeast();
            }
            return refuse(MISPLACED);
        }

        private boolean takeHear() {
            if (!takeNumber(0, BEACONS - 1)) {
                return false;
            }
            int b = value;
            if (!takeNumber(0, draft.clocks - 1)) {
                return false;
            }
            int r = value;
            if (draft.stampAt(b, r) != NONE) {
                return refuse(TOLD_TWICE);
            }
            if (!takeNumber(0, HIGHEST_STAMP)) {
                return false;
            }
            draft.putStamp(b, r, value);
            return takeSign();
        }

        private boolean takeLimit() {
            if (limitTold) {
                return refuse(TOLD_TWICE);
            }
            limitTold = true;
            if (!takeNumber(0, HIGHEST_LIMIT)) {
                return false;
            }
            draft.limit = value;
            return takeSign();
        }

        private boolean takeLeast() {
            if (leastTold) {
                return refuse(TOLD_TWICE);
            }
            leastTold = true;
            if (!takeNumber(LOWEST_LEAST, HIGHEST_LEAST)) {
                return false;
            }
            draft.least = value;
            return takeSign();
        }

        private boolean takeNumber(int lowest, int highest) {
            if (!nextToken()) {
                return false;
            }
            if (kind != NUMBER) {
                return refuse(MISPLACED);
            }
            evaluate();
            return value >= lowest && value <= highest || refuse(OUT_OF_BOUNDS);
        }

        private boolean takeSign() {
            return nextToken() && (kind == SIGN || refuse(MISPLACED));
        }

        /** Tells the FAULT of the latest TOKEN; false, for the caller to hand on. */
        private boolean refuse(int fault) {
            faultKind = fault;
            faultPlace = first;
            return false;
        }

        /** Goes to the next TOKEN, or the end: whether there is one. */
        private boolean nextToken() {
            first = tape.behindRun(behind, ' ', ' ');
            if (first == tape.length) {
                kind = END;
                return true;
            }
            int c = tape.byteAt(first);
            if (c >= 'a' && c <= 'z') {
                kind = NAME;
                behind = tape.behindRun(first, 'a', 'z');
                return true;
            }
            if (c >= '0' && c <= '9') {
                kind = NUMBER;
                behind = tape.behindRun(first, '0', '9');
                return behind - first <= MOST_FIGURES || refuse(NO_TOKEN);
            }
            kind = SIGN;
            behind = first + 1;
            return c == ';' || refuse(NO_TOKEN);
        }

        private void evaluate() {
            value = 0;
            for (int place = first; place < behind; place++) {
                value = value * 10 + (tape.byteAt(place) - '0');
            }
        }

        private boolean isName(String word) {
            if (kind != NAME || behind - first != word.length()) {
                return false;
            }
            for (int i = 0; i < word.length(); i++) {
                if (tape.byteAt(first + i) != word.charAt(i)) {
                    return false;
                }
            }
            return true;
        }
    }
}
