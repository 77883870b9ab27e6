import java.util.ArrayList;
import java.util.Arrays;
import java.util.List;
import java.util.function.Consumer;

/**
 * The sentences of the document that name a boundary, in its order, each with a test of its own on new objects.
 * Each test is named by its promise (0: the words above the promises) and the sentence that it holds to.
 */
public final class EdgeTest {
    private static final int BAD = -1, STATE = -2, FULL = -3, NONE = -4;
    private static final int NULL = -11, CAST = -12, INDEX = -13, SIZE = -14;
    private static final int MIN = Integer.MIN_VALUE, MAX = Integer.MAX_VALUE;
    private static final long LOW = Long.MIN_VALUE, HIGH = Long.MAX_VALUE;
    private static int edges;
    private static int answers;
    private static int failed;
    private static String sentence;

    public static void main(String[] args) {
        theOrderOfAnswers();
        theBounds();
        theTape();
        theTokens();
        theFaults();
        whatATextTells();
        theLines();
        theTimes();
        theChains();
        theSheets();
        promises1To5();
        promises6To8();
        promises9To12();
        promises13To14();
        promises15To17();
        promises18To22();
        promises23To24();
        promises25To28();
        Refused.changesNothing();
        System.out.println("edges: " + edges + " tests, " + answers + " answers, " + failed + " wrong");
        if (failed > 0) {
            System.exit(1);
        }
    }

    private static void edge(int promise, String words, Consumer<Clocks> test) {
        sentence = "promise " + promise + ", '" + words + "'";
        edges++;
        test.accept(new Clocks());
    }

    private static void due(String call, long got, long want) {
        answers++;
        if (got != want) {
            failed++;
            System.out.println(sentence + ": " + call + " answered " + got + ", due is " + want);
        }
    }

    /** The object under test. What it answers behind its 512th call is free, so no test may go there. */
    private static final class Clocks {
        private final BeaconLines x = new BeaconLines();
        private int calls;

        private BeaconLines x() {
            calls++;
            if (calls > 512) {
                throw new IllegalStateException("more than 512 calls: " + sentence);
            }
            return x;
        }

        int feed(int c) { return x().feed(c); }
        int end(int n) { return x().end(n); }
        int text() { return x().text(); }
        int fault() { return x().fault(); }
        int rule(int what) { return x().rule(what); }
        int stamp(int b, int r) { return x().stamp(b, r); }
        int clock(int r, int what) { return x().clock(r, what); }
        int line(int r, int s, int what) { return x().line(r, s, what); }
        long sum(int r, int s, int what) { return x().sum(r, s, what); }
        int struck(int r, int s, int i) { return x().struck(r, s, i); }
        long far(int r, int s, int b) { return x().far(r, s, b); }
        int cost(int r, int s) { return x().cost(r, s); }
        int chain(int r, int s, int i) { return x().chain(r, s, i); }
        long taken(int r, int s, long v) { return x().taken(r, s, v); }
        int ok() { return x().ok(); }
        long there(int r, int s, long v) { return x().there(r, s, v); }
        int hear(int b, int r, int t) { return x().hear(b, r, t); }
        int lose(int b, int r) { return x().lose(b, r); }
        int shift(int r, int c) { return x().shift(r, c); }
        int set(int what, int v) { return x().set(what, v); }
        int draw(int seed, int n) { return x().draw(seed, n); }
        int keep(int k) { return x().keep(k); }
        int back(int k) { return x().back(k); }
        int sheet(int k, int lane, int n) { return x().sheet(k, lane, n); }
        int lay(int k, int i, int v) { return x().lay(k, i, v); }
        int read(int k, int lane, int f, int r, int n) { return x().read(k, lane, f, r, n); }
        int count(int what) { return x().count(what); }

        Clocks put(String text) {
            for (int i = 0; i < text.length(); i++) {
                feed(text.charAt(i));
            }
            return this;
        }

        int tell(String text) {
            put(text);
            return text();
        }

        /** n CLOCKS that heard nothing, LIMIT and LEAST as wanted. */
        Clocks with(int n, int limit, int least) {
            tell("clocks " + n + ";limit " + limit + ";least " + least + ";");
            return this;
        }

        /** The STAMPS of a CLOCK of BEACONS from on; one below 0 is not heard. */
        Clocks row(int r, int from, int... stamps) {
            for (int i = 0; i < stamps.length; i++) {
                if (stamps[i] >= 0) {
                    hear(from + i, r, stamps[i]);
                }
            }
            return this;
        }

        /** An exact LINE between two CLOCKS by two BEACONS that no other need hear. */
        Clocks tie(int r, int s, int b) {
            return row(r, b, 0, 1).row(s, b, 0, 1);
        }

        /** CELLS of a SHEET from 0 on. */
        Clocks cells(int k, int lane, int... values) {
            sheet(k, lane, values.length);
            for (int i = 0; i < values.length; i++) {
                lay(k, i, values[i]);
            }
            return this;
        }
    }

    private static void wrongText(String text, int fault, int place) {
        Clocks x = new Clocks();
        due("text of '" + text + "'", x.tell(text), -10 - place);
        due("fault of '" + text + "'", x.fault(), fault);
        due("the tape behind '" + text + "'", x.count(1), 0);
    }

    private static Clocks goodText(String text, int stamps) {
        Clocks x = new Clocks();
        due("text of '" + text + "'", x.tell(text), stamps);
        due("fault of '" + text + "'", x.fault(), 0);
        due("the tape behind '" + text + "'", x.count(1), 0);
        return x;
    }

    // ---- the words above the promises: Answers

    private static void theOrderOfAnswers() {
        edge(0, "the first that fits: BAD before FULL, feed", x -> {
            x.put(" ".repeat(300));
            due("feed(128)", x.feed(128), BAD);
            due("feed(-1)", x.feed(-1), BAD);
            due("feed(32)", x.feed(32), FULL);
        });
        edge(0, "the first that fits: BAD before STATE before FULL, taken", x -> {
            x.with(3, 0, 2).tie(0, 1, 0);
            due("taken(0, 3, HIGH)", x.taken(0, 3, HIGH), BAD);
            due("taken(3, 0, HIGH)", x.taken(3, 0, HIGH), BAD);
            due("taken(0, 2, HIGH)", x.taken(0, 2, HIGH), STATE);
            due("taken(0, 1, HIGH)", x.taken(0, 1, HIGH), FULL);
        });
        edge(0, "the first that fits: BAD before STATE before FULL, there", x -> {
            x.with(3, 0, 2).tie(0, 1, 0).row(0, 2, 0, 1).row(2, 2, 5, 5);
            due("0 reaches 2", x.cost(0, 2), 1);
            due("2 does not reach 0", x.cost(2, 0), NONE);
            due("there(0, 3, HIGH)", x.there(0, 3, HIGH), BAD);
            due("there(0, 2, HIGH)", x.there(0, 2, HIGH), STATE);
            due("there(2, 0, HIGH)", x.there(2, 0, HIGH), STATE);
            due("there(0, 1, HIGH)", x.there(0, 1, HIGH), FULL);
        });
        edge(0, "the first that fits: BAD before NONE", x -> {
            x.with(2, 2, 3);
            due("stamp(16, 0)", x.stamp(16, 0), BAD);
            due("lose(16, 0)", x.lose(16, 0), BAD);
            due("lose(0, 2)", x.lose(0, 2), BAD);
            due("line(0, 1, 5)", x.line(0, 1, 5), BAD);
            due("sum(0, 1, 6)", x.sum(0, 1, 6), BAD);
            due("struck(0, 1, -1)", x.struck(0, 1, -1), BAD);
            due("far(0, 1, 16)", x.far(0, 1, 16), BAD);
            due("cost(0, 2)", x.cost(0, 2), BAD);
            due("chain(0, 1, -1)", x.chain(0, 1, -1), BAD);
            due("hear(0, 0, -1)", x.hear(0, 0, -1), BAD);
            due("count(3)", x.count(3), BAD);
        });
        edge(0, "the first that fits: BAD before STATE, shift and back", x -> {
            x.hear(0, 0, 5);
            due("shift(0, -10000)", x.shift(0, -10000), BAD);
            due("shift(0, 10000)", x.shift(0, 10000), BAD);
            due("shift(0, -9999)", x.shift(0, -9999), STATE);
            due("back(2)", x.back(2), BAD);
            due("back(1)", x.back(1), STATE);
        });
        edge(0, "the first that fits: BAD before a FAULT, sheets", x -> {
            due("sheet(4, 0, -1)", x.sheet(4, 0, -1), BAD);
            due("sheet(0, 3, -1)", x.sheet(0, 3, -1), BAD);
            due("lay(4, 0, 0)", x.lay(4, 0, 0), BAD);
            due("read(0, 3, 0, 0, 1)", x.read(0, 3, 0, 0, 1), BAD);
            due("read(0, 0, 0, 1, 1)", x.read(0, 0, 0, 1, 1), BAD);
            due("read(0, 0, 0, 0, 17)", x.read(0, 0, 0, 0, 17), BAD);
            due("read(0, 0, 0, 0, 1)", x.read(0, 0, 0, 0, 1), NULL);
        });
    }

    // ---- 1: CLOCKS, BEACONS, STAMPS, LIMIT, LEAST

    private static void theBounds() {
        edge(0, "CLOCKS 0 on (1 to 7; at first 1): at first", x -> {
            due("rule(0)", x.rule(0), 1);
            due("clock(0, 0)", x.clock(0, 0), 0);
            due("clock(1, 0)", x.clock(1, 0), BAD);
        });
        edge(0, "CLOCKS (1 to 7): none", x -> {
            wrongText("clocks 0;", 3, 7);
            due("draw(1, 0)", x.draw(1, 0), BAD);
            due("draw(1, -1)", x.draw(1, -1), BAD);
        });
        edge(0, "CLOCKS (1 to 7): one, seven", x -> {
            due("clocks 1", goodText("clocks 1;", 0).rule(0), 1);
            due("clocks 7", goodText("clocks 7;", 0).rule(0), 7);
            x.draw(1, 1);
            due("draw(1, 1)", x.rule(0), 1);
            x.draw(1, 7);
            due("draw(1, 7)", x.rule(0), 7);
        });
        edge(0, "CLOCKS (1 to 7): eight", x -> {
            wrongText("clocks 8;", 3, 7);
            due("draw(1, 8)", x.draw(1, 8), BAD);
        });
        for (int n = 1; n <= 7; n++) {
            int last = n - 1;
            edge(0, "there is no such CLOCK: of " + n, x -> theLastClock(x, last));
        }
        edge(0, "BEACONS 0 to 15", x -> {
            for (int b : new int[] {0, 15}) {
                due("hear " + b, x.hear(b, 0, 7), NONE);
                due("stamp " + b, x.stamp(b, 0), 7);
                due("lose " + b, x.lose(b, 0), 7);
            }
            for (int b : new int[] {MIN, -1, 16, MAX}) {
                due("hear " + b, x.hear(b, 0, 7), BAD);
                due("stamp " + b, x.stamp(b, 0), BAD);
                due("lose " + b, x.lose(b, 0), BAD);
            }
            due("none was heard", x.rule(1), 0);
        });
        edge(0, "BEACONS 0 to 15: far", x -> {
            x.with(2, 0, 2).row(0, 0, 0).row(1, 0, 0).row(0, 15, 1).row(1, 15, 1);
            due("far of 0", x.far(0, 1, 0), 0);
            due("far of 15", x.far(0, 1, 15), 0);
            for (int b : new int[] {MIN, -1, 16, MAX}) {
                due("far of " + b, x.far(0, 1, b), BAD);
            }
        });
        edge(0, "STAMP (0 to 9999)", x -> {
            due("-1", x.hear(0, 0, -1), BAD);
            due("MIN", x.hear(0, 0, MIN), BAD);
            due("10000", x.hear(0, 0, 10000), BAD);
            due("MAX", x.hear(0, 0, MAX), BAD);
            due("0", x.hear(0, 0, 0), NONE);
            due("9999", x.hear(0, 0, 9999), 0);
            due("stamp", x.stamp(0, 0), 9999);
        });
        edge(0, "LIMIT (0 to 99; 2 at first)", x -> {
            due("at first", x.rule(2), 2);
            due("-1", x.set(2, -1), BAD);
            due("100", x.set(2, 100), BAD);
            due("0", x.set(2, 0), 2);
            due("99", x.set(2, 99), 0);
            due("rule(2)", x.rule(2), 99);
        });
        edge(0, "LEAST (2 to 6; 3 at first)", x -> {
            due("at first", x.rule(3), 3);
            due("1", x.set(3, 1), BAD);
            due("7", x.set(3, 7), BAD);
            due("2", x.set(3, 2), 3);
            due("6", x.set(3, 6), 2);
            due("rule(3)", x.rule(3), 6);
        });
    }

    /** Each call that takes a CLOCK knows the last one and refuses the one behind it. */
    private static void theLastClock(Clocks x, int last) {
        x.with(last + 1, 2, 3);
        int none = last + 1;
        due("stamp of the last", x.stamp(0, last), NONE);
        due("clock of the last", x.clock(last, 3), 1);
        due("cost of the last", x.cost(last, last), 0);
        due("chain of the last", x.chain(last, last, 0), last);
        due("taken of the last", x.taken(last, last, 9), 9);
        due("there of the last", x.there(last, last, 9), 0);
        due("lose of the last", x.lose(0, last), NONE);
        due("shift of the last", x.shift(last, 1), 0);
        due("read of the last", x.read(0, 0, 0, last, 0), 0);
        due("hear of the last", x.hear(0, last, 4), NONE);
        if (last > 0) {
            due("line to the last", x.line(0, last, 0), 0);
            due("sum from the last", x.sum(last, 0, 0), NONE);
            due("struck from the last", x.struck(last, 0, 0), NONE);
            due("far to the last", x.far(0, last, 0), NONE);
        }
        for (int r : new int[] {MIN, -1, none, 7, MAX}) {
            due("stamp of " + r, x.stamp(0, r), BAD);
            due("clock of " + r, x.clock(r, 0), BAD);
            due("line from " + r, x.line(r, 0, 0), BAD);
            due("line to " + r, x.line(0, r, 0), BAD);
            due("sum from " + r, x.sum(r, 0, 0), BAD);
            due("sum to " + r, x.sum(0, r, 0), BAD);
            due("struck from " + r, x.struck(r, 0, 0), BAD);
            due("struck to " + r, x.struck(0, r, 0), BAD);
            due("far from " + r, x.far(r, 0, 0), BAD);
            due("far to " + r, x.far(0, r, 0), BAD);
            due("cost from " + r, x.cost(r, 0), BAD);
            due("cost to " + r, x.cost(0, r), BAD);
            due("chain from " + r, x.chain(r, 0, 0), BAD);
            due("chain to " + r, x.chain(0, r, 0), BAD);
            due("taken from " + r, x.taken(r, 0, 0), BAD);
            due("taken to " + r, x.taken(0, r, 0), BAD);
            due("there from " + r, x.there(r, 0, 0), BAD);
            due("there to " + r, x.there(0, r, 0), BAD);
            due("hear of " + r, x.hear(0, r, 0), BAD);
            due("lose of " + r, x.lose(0, r), BAD);
            due("shift of " + r, x.shift(r, 0), BAD);
            due("read of " + r, x.read(0, 0, 0, r, 0), BAD);
        }
    }

    // ---- THE TAPE

    private static void theTape() {
        edge(0, "THE TAPE has 300 bytes", x -> {
            for (int i = 1; i <= 300; i++) {
                due("feed, the " + i + "th", x.feed(' '), i);
            }
            due("the 301st", x.feed(' '), FULL);
            due("count(1)", x.count(1), 300);
        });
        edge(0, "places from 0: the first", x -> wrongText("?clocks 1;", 1, 0));
        edge(0, "places from 0: the last", x -> wrongText("clocks 1;" + " ".repeat(290) + "?", 1, 299));
        edge(0, "places from 0: the end of a full one", x -> wrongText("clocks 1" + " ".repeat(292), 2, 300));
        edge(0, "a full one is taken", x -> goodText("clocks 1" + " ".repeat(291) + ";", 0));
        edge(0, "a full one, told to its last byte", x -> {
            String text = "clocks 1;" + " ".repeat(275) + "hear 15 0 9999 ;";
            due("its length", text.length(), 300);
            due("stamp", goodText(text, 1).stamp(15, 0), 9999);
        });
    }

    // ---- TOKENS

    private static void theTokens() {
        for (int c = 0; c < 128; c++) {
            int sign = c;
            edge(0, "TOKENS: the byte " + c + " behind ;", x -> behindSign(sign));
            edge(0, "TOKENS: the byte " + c + " behind a NAME", x -> behindName(sign));
            edge(0, "TOKENS: the byte " + c + " behind a NUMBER", x -> behindNumber(sign));
        }
        edge(0, "TOKENS, each as long as may be: a NAME", x -> {
            wrongText("clocksclocks 1;", 2, 0);
            wrongText("clocks 1;hearlimit 1;", 2, 9);
            wrongText("clocks 1;limitx 1;", 2, 9);
            wrongText("clocks 1;" + "z".repeat(291), 2, 9);
        });
        edge(0, "TOKENS, each as long as may be: a NUMBER", x -> {
            due("0015 is one", goodText("clocks 1;hear 0015 0 1;", 1).stamp(15, 0), 1);
            wrongText("clocks 2;hear 01 2;", 3, 17);
            wrongText("clocks 2;hear 011;", 2, 17);
        });
        edge(0, "blanks ahead, between, behind, as many as wanted", x -> {
            due("many", goodText("   clocks   2   ;   hear   1   1   5   ;   ", 1).stamp(1, 1), 5);
            due("one each", goodText(" clocks 2 ; hear 1 1 5 ; ", 1).stamp(1, 1), 5);
        });
        edge(0, "else none is needed", x -> {
            Clocks y = goodText("clocks2;hear1 1 5;limit7;least4;", 1);
            due("stamp", y.stamp(1, 1), 5);
            due("limit", y.rule(2), 7);
            due("least", y.rule(3), 4);
        });
        edge(0, "else none is needed: a NUMBER, then a NAME", x -> {
            wrongText("clocks 1hear;", 2, 8);
            wrongText("clocks 1;hear1hear", 2, 14);
        });
        edge(0, "at least one between two NAMES", x -> {
            wrongText("clocks clocks 1;", 2, 7);
            wrongText("clocksclocks", 2, 0);
        });
        edge(0, "at least one between two NUMBERS", x -> {
            goodText("clocks 2;hear 1 1 1;", 1);
            wrongText("clocks 2;hear 11 1;", 2, 18);
            wrongText("clocks 2;hear 1 11;", 3, 16);
        });
        edge(0, "NUMBERS (1 to 4 figures): one, four", x -> {
            due("0002", goodText("clocks 0002;", 0).rule(0), 2);
            due("9999", goodText("clocks 1;hear 0 0 9999;", 1).stamp(0, 0), 9999);
            due("0000", goodText("clocks 1;hear 0000 0000 0000;", 1).stamp(0, 0), 0);
        });
        edge(0, "NUMBERS (1 to 4 figures): five", x -> {
            wrongText("clocks 00002;", 1, 7);
            wrongText("clocks 1;hear 0 0 10000;", 1, 18);
            wrongText("clocks 1;hear 0 0 00000;", 1, 18);
            wrongText("clocks 1;limit 00001;", 1, 15);
            wrongText("clocks 1;least 00003;", 1, 15);
        });
        edge(0, "NUMBERS: so long that an int could not hold them", x -> {
            wrongText("clocks 4294967297;", 1, 7);
            wrongText("clocks " + "0".repeat(292) + "1", 1, 7);
        });
    }

    private static boolean isLetter(int c) {
        return "abcdefghijklmnopqrstuvwxyz".indexOf(c) >= 0;
    }

    private static boolean isFigure(int c) {
        return "0123456789".indexOf(c) >= 0;
    }

    /** Behind a whole text a blank is let be, a TOKEN can not stand there, and all others are none. */
    private static void behindSign(int c) {
        String text = "clocks 1;" + (char) c;
        if (c == ' ') {
            goodText(text, 0);
        } else {
            wrongText(text, isLetter(c) || isFigure(c) || c == ';' ? 2 : 1, 9);
        }
    }

    private static void behindName(int c) {
        String text = "clocks" + (char) c + "1;";
        if (c == ' ' || c == '0') {
            goodText(text, 0);
        } else if (isLetter(c)) {
            wrongText(text, 2, 0);
        } else {
            wrongText(text, isFigure(c) ? 3 : c == ';' ? 2 : 1, 6);
        }
    }

    private static void behindNumber(int c) {
        String text = "clocks 1" + (char) c;
        if (c == ';') {
            goodText(text, 0);
        } else if (c == ' ') {
            wrongText(text, 2, 9);
        } else {
            wrongText(text, isFigure(c) ? 3 : isLetter(c) ? 2 : 1, isFigure(c) ? 7 : 8);
        }
    }

    // ---- FAULTS

    private static void theFaults() {
        edge(0, "the first met as it is read (a TOKEN is read when the one before has been taken)", x -> {
            wrongText("clock ?", 2, 0);
            wrongText("clocks 8?", 3, 7);
            wrongText("clocks 8 12345", 3, 7);
            wrongText("clocks 0", 3, 7);
            wrongText("clocks 1;hear 16?", 3, 14);
            wrongText("clocks 1;hear 0 1?", 3, 16);
            wrongText("clocks 1;hear 0 1 12345", 3, 16);
            wrongText("clocks 1;hear 16 1 0;", 3, 14);
            wrongText("clocks 1;limit 100?", 3, 15);
            wrongText("clocks 1;least 7?", 3, 15);
            wrongText("clocks 1;;?", 2, 9);
            wrongText("clocks 1?8;", 1, 8);
            wrongText("clocks ?;", 1, 7);
        });
        edge(0, "1 no TOKEN", x -> {
            wrongText("?", 1, 0);
            wrongText("  ?", 1, 2);
            wrongText("cl?ocks 1;", 2, 0);
            wrongText("clocks?", 1, 6);
            wrongText("clocks 1?", 1, 8);
            wrongText("clocks 1;?", 1, 9);
            wrongText("clocks 1;hear?", 1, 13);
            wrongText("clocks 1;hear 0?", 1, 15);
            wrongText("clocks 1;hear 0 0?", 1, 17);
            wrongText("clocks 1;hear 0 0 0?", 1, 19);
            wrongText("clocks 1;limit?", 1, 14);
            wrongText("clocks 1;limit 0?", 1, 16);
            wrongText("clocks 1;least-3;", 1, 14);
        });
        edge(0, "a point is none", x -> {
            wrongText(".", 1, 0);
            wrongText("clocks 1.;", 1, 8);
            wrongText("clocks 1;hear 0 0 1.0;", 1, 19);
        });
        edge(0, "1 a NUMBER that is too long (its first byte), wherever it stands", x -> {
            wrongText("12345", 1, 0);
            wrongText("   12345", 1, 3);
            wrongText("clocks 1 12345", 1, 9);
            wrongText("clocks 1;12345", 1, 9);
            wrongText("clocks 1;hear 12345", 1, 14);
            wrongText("clocks 1;hear 0 12345", 1, 16);
            wrongText("clocks 1;hear 0 0 0 12345", 1, 20);
        });
        edge(0, "2 a TOKEN that can not stand there: in place of clocks", x -> {
            wrongText("hear 0 0 0;", 2, 0);
            wrongText("limit 1;", 2, 0);
            wrongText("1234", 2, 0);
            wrongText(" ;", 2, 1);
            wrongText("clock 1;", 2, 0);
            wrongText("clockt 1;", 2, 0);
            wrongText("dlocks 1;", 2, 0);
        });
        edge(0, "2 a TOKEN that can not stand there: in place of a NUMBER", x -> {
            wrongText("clocks;", 2, 6);
            wrongText("clocks one;", 2, 7);
            wrongText("clocks 1;hear;", 2, 13);
            wrongText("clocks 1;hear 0;", 2, 15);
            wrongText("clocks 1;hear 0 0;", 2, 17);
            wrongText("clocks 1;hear 0 0 x;", 2, 18);
            wrongText("clocks 1;limit;", 2, 14);
            wrongText("clocks 1;limit limit;", 2, 15);
            wrongText("clocks 1;least;", 2, 14);
        });
        edge(0, "2 a TOKEN that can not stand there: in place of ;", x -> {
            wrongText("clocks 1 1;", 2, 9);
            wrongText("clocks 1 hear 0 0 0;", 2, 9);
            wrongText("clocks 1;hear 0 0 0 0;", 2, 20);
            wrongText("clocks 1;hear 0 0 0 hear", 2, 20);
            wrongText("clocks 1;limit 1 1;", 2, 17);
            wrongText("clocks 1;least 3least", 2, 16);
        });
        edge(0, "2 a NAME that begins no line", x -> {
            wrongText("clocks 1;clocks 1;", 2, 9);
            wrongText("clocks 1;h", 2, 9);
            wrongText("clocks 1;hea 0 0 0;", 2, 9);
            wrongText("clocks 1;heard 0 0 0;", 2, 9);
            wrongText("clocks 1;limi 0;", 2, 9);
            wrongText("clocks 1;leas 3;", 2, 9);
            wrongText("clocks 1;leasx 3;", 2, 9);
            wrongText("clocks 1;  lose 0 0;", 2, 11);
        });
        edge(0, "2 ;, a NUMBER that begins no line", x -> {
            wrongText("clocks 1;;", 2, 9);
            wrongText("clocks 1;0", 2, 9);
            wrongText("clocks 1;hear 0 0 0;;", 2, 20);
        });
        edge(0, "2 or the end: the length", x -> {
            wrongText("", 2, 0);
            wrongText("   ", 2, 3);
            wrongText("clocks", 2, 6);
            wrongText("clocks ", 2, 7);
            wrongText("clocks 1", 2, 8);
            wrongText("clocks 1  ", 2, 10);
            wrongText("clocks 1;hear", 2, 13);
            wrongText("clocks 1;hear 0", 2, 15);
            wrongText("clocks 1;hear 0 0", 2, 17);
            wrongText("clocks 1;hear 0 0 0", 2, 19);
            wrongText("clocks 1;limit", 2, 14);
            wrongText("clocks 1;limit 1 ", 2, 17);
            wrongText("clocks 1;least", 2, 14);
            wrongText("clocks 1;least 3", 2, 16);
        });
        edge(0, "3 a NUMBER out of its bounds", x -> {
            wrongText("clocks 0;", 3, 7);
            wrongText("clocks 8;", 3, 7);
            wrongText("clocks 9999;", 3, 7);
            wrongText("clocks 1;hear 16 0 0;", 3, 14);
            wrongText("clocks 1;limit 100;", 3, 15);
            wrongText("clocks 1;least 0;", 3, 15);
            wrongText("clocks 1;least 1;", 3, 15);
            wrongText("clocks 1;least 7;", 3, 15);
        });
        edge(0, "3 a NUMBER that is just in its bounds", x -> {
            goodText("clocks 7;hear 0 0 0;hear 15 6 9999;limit 0;least 2;", 2);
            goodText("clocks 1;limit 99;least 6;", 0);
        });
        for (int n = 1; n <= 7; n++) {
            int clocks = n;
            edge(0, "3 a CLOCK that there is not: of " + n, x -> {
                wrongText("clocks " + clocks + ";hear 0 " + clocks + " 0;", 3, 16);
                due("the last", goodText("clocks " + clocks + ";hear 0 " + (clocks - 1) + " 8;", 1)
                    .stamp(0, clocks - 1), 8);
            });
        }
        edge(0, "3 a CLOCK that there is not, though there was one", x -> {
            x.draw(5, 7);
            due("text", x.tell("clocks 2;hear 0 2 0;"), -26);
            due("fault", x.fault(), 3);
            due("clocks", x.rule(0), 7);
        });
        edge(0, "4 a STAMP that is told already (its CLOCK)", x -> {
            wrongText("clocks 1;hear 0 0 0;hear 0 0 0;", 4, 27);
            wrongText("clocks 2;hear 15 1 9;hear 15  1 7;", 4, 30);
            wrongText("clocks 2;hear 3 1 0;hear 03 01 5;", 4, 28);
        });
        edge(0, "4 a STAMP that is told already: as soon as its CLOCK is read", x -> {
            wrongText("clocks 1;hear 0 0 0;hear 0 0", 4, 27);
            wrongText("clocks 1;hear 0 0 0;hear 0 0;", 4, 27);
            wrongText("clocks 1;hear 0 0 0;hear 0 0?", 4, 27);
            wrongText("clocks 1;hear 0 0 0;hear 0 0 12345", 4, 27);
        });
        edge(0, "4 told in this text: what was heard before is no FAULT", x -> {
            x.hear(0, 0, 5);
            due("text", x.tell("clocks 1;hear 0 0 6;"), 1);
            due("again", x.tell("clocks 1;hear 0 0 7;"), 1);
            due("stamp", x.stamp(0, 0), 7);
        });
        edge(0, "4 told in this text: what a faulty one told is no FAULT", x -> {
            due("faulty", x.tell("clocks 1;hear 0 0 6;limit 1;least 2;?"), -46);
            due("text", x.tell("clocks 1;hear 0 0 7;limit 3;least 4;"), 1);
            due("fault", x.fault(), 0);
        });
        edge(0, "4 the same BEACON of another CLOCK, another BEACON of the same CLOCK", x ->
            goodText("clocks 2;hear 0 0 1;hear 0 1 1;hear 1 0 1;hear 1 1 1;", 4));
        edge(0, "4 limit, least for the second time (its NAME)", x -> {
            wrongText("clocks 1;limit 1;limit 1;", 4, 17);
            wrongText("clocks 1;least 3;least 3;", 4, 17);
            wrongText("clocks 1;limit 1;least 3; limit 1;", 4, 26);
            wrongText("clocks 1;least 3;limit 1;  least 3;", 4, 27);
            wrongText("clocks 1;limit 2;limit", 4, 17);
            wrongText("clocks 1;limit 0;limit?", 4, 17);
            wrongText("clocks 1;least 2;least 9;", 4, 17);
        });
    }

    // ---- what a text tells

    private static void whatATextTells() {
        edge(0, "text: clocks N ; { line }: no line at all", x -> goodText("clocks 3;", 0));
        edge(0, "limit, least (those not told stay)", x -> {
            x.with(1, 50, 5);
            x.tell("clocks 1;");
            due("neither", x.rule(2) * 10 + x.rule(3), 505);
            x.tell("clocks 1;limit 7;");
            due("limit alone", x.rule(2) * 10 + x.rule(3), 75);
            x.tell("clocks 1;least 2;");
            due("least alone", x.rule(2) * 10 + x.rule(3), 72);
        });
        edge(0, "limit, least (those not told stay): as set by hand, as they were kept", x -> {
            x.set(2, 50);
            x.set(3, 5);
            x.tell("clocks 1;");
            due("by hand", x.rule(2) * 10 + x.rule(3), 505);
            x.keep(0);
            x.set(2, 1);
            x.set(3, 2);
            x.back(0);
            x.tell("clocks 1;");
            due("as kept", x.rule(2) * 10 + x.rule(3), 505);
        });
        edge(0, "tells all STAMPS: LINES are fitted anew", x -> {
            x.with(2, 0, 2).tie(0, 1, 0);
            due("before", x.taken(0, 1, 0), 0);
            due("a FAULT", x.tell("clocks 2;hear 0 0 5;?"), -30);
            due("then", x.taken(0, 1, 0), 0);
            x.tell("clocks 2;hear 0 0 0;hear 1 0 1;hear 0 1 6;hear 1 1 7;");
            due("a text", x.taken(0, 1, 0), 6 * 256);
            x.tell("clocks 2;");
            due("one that tells none", x.line(0, 1, 0), 0);
        });
        edge(0, "tells CLOCKS, all STAMPS, in place of what there was", x -> {
            x.draw(3, 7);
            due("text", x.tell("clocks 2;hear 4 1 44;"), 1);
            due("clocks", x.rule(0), 2);
            due("stamps", x.rule(1), 1);
            due("stamp(4, 1)", x.stamp(4, 1), 44);
            due("more clocks", x.tell("clocks 7;"), 0);
            for (int r = 0; r < 7; r++) {
                due("they heard nothing, " + r, x.clock(r, 0), 0);
            }
        });
        edge(0, "IMAGES are gone", x -> {
            x.keep(0);
            x.keep(1);
            x.tell("clocks 1;");
            due("count(0)", x.count(0), 0);
            due("back(0)", x.back(0), STATE);
            due("back(1)", x.back(1), STATE);
            due("keep(0)", x.keep(0), 0);
            due("keep(1)", x.keep(1), 0);
        });
        edge(0, "SHEETS stay", x -> {
            x.cells(0, 0, 1, 2).cells(1, 1, 3, 4).cells(2, 2, 5, 6);
            x.tell("clocks 1;");
            for (int k = 0; k < 3; k++) {
                due("read " + k, x.read(k, k, 0, 0, 2), 2);
                due("first of " + k, x.stamp(0, 0), 2 * k + 1);
                due("second of " + k, x.stamp(1, 0), 2 * k + 2);
            }
            due("sheet 3", x.lay(3, 0, 0), NULL);
        });
        edge(0, "what ok() tells stays", x -> {
            x.tell("clocks 2;");
            due("0", x.ok(), 0);
            x.taken(1, 1, 0);
            x.tell("clocks 1;");
            due("1", x.ok(), 1);
        });
    }

    // ---- 2: THE LINE

    private static void theLines() {
        for (int least = 2; least <= 6; least++) {
            int n = least;
            edge(0, "is N below LEAST, there is no LINE: LEAST " + n, x -> {
                x.with(2, 0, n);
                for (int b = 0; b < n; b++) {
                    due("N " + b, x.line(0, 1, 0), 0);
                    x.hear(b, 0, 10 * b);
                    x.hear(b, 1, 20 * b);
                }
                due("N is LEAST", x.line(0, 1, 0), 2);
                due("N", x.sum(0, 1, 0), n);
                x.set(3, 2);
                x.lose(0, 0);
                due("of those left", x.line(0, 1, 0), n == 2 ? 0 : 2);
            });
        }
        edge(0, "is XX 0, there is no LINE", x -> {
            x.with(2, 99, 2).row(0, 0, 7, 7, 7, 7).row(1, 0, 1, 2, 3, 4);
            due("all of one x", x.line(0, 1, 0), 0);
            due("sum", x.sum(0, 1, 3), NONE);
            due("all of one y", x.line(1, 0, 0), 2);
            due("its XY", x.sum(1, 0, 4), 0);
            x.hear(3, 0, 8);
            due("one x is another", x.line(0, 1, 0), 2);
            due("XX", x.sum(0, 1, 3), 3);
        });
        edge(0, "of each BEACON that both heard", x -> {
            x.with(2, 0, 2).row(0, 0, 1, 2, 3, -1, 5).row(1, 0, -1, 2, 3, 4, -1);
            due("N", x.sum(0, 1, 0), 2);
            due("X", x.sum(0, 1, 1), 5);
            due("Y", x.sum(0, 1, 2), 5);
        });
        edge(0, "FAR is what is above 0, as it is, or turned round", x -> {
            x.with(2, 2, 3).row(0, 0, 0, 1, 2).row(1, 0, 0, 3, 0);
            due("above the line", x.sum(0, 1, 5), 36);
            due("farthest", x.line(0, 1, 3), 1);
            x.row(1, 0, 3, 0, 3);
            due("below the line", x.sum(0, 1, 5), 36);
            due("farthest", x.line(0, 1, 3), 1);
            due("far of 0", x.far(0, 1, 0), 256);
            due("far of 1", x.far(0, 1, 1), 512);
        });
        edge(0, "of like ones that of the lesser BEACON", x -> {
            x.with(2, 99, 2).row(0, 0, 0, 1, 2, 3).row(1, 0, 4, 0, 6, 2);
            due("1 below, 2 above", x.line(0, 1, 3), 1);
            x.row(1, 0, 2, 6, 0, 4);
            due("1 above, 2 below", x.line(0, 1, 3), 1);
            x.row(1, 0, 2, 0, 0, 2);
            due("all like", x.line(0, 1, 3), 0);
            x.row(1, 0, 3, 4, 5, 6);
            due("all on the line", x.line(0, 1, 3), 0);
            x.lose(0, 1);
            due("all that are left on the line", x.line(0, 1, 3), 1);
        });
        for (int b = 0; b < 14; b++) {
            int from = b;
            edge(0, "The FARTHEST is the POINT of greatest FAR: BEACON " + (b + 1) + " of three", x -> {
                x.with(2, 2, 3).row(0, from, 0, 1, 2).row(1, from, 0, 3, 0);
                due("farthest", x.line(0, 1, 3), from + 1);
            });
        }
        edge(0, "The FARTHEST is the POINT of greatest FAR: the last BEACON", x -> {
            x.with(2, 2, 3).row(0, 13, 0, 2, 1).row(1, 13, 0, 0, 3);
            due("farthest", x.line(0, 1, 3), 15);
            x.set(2, 1);
            x.set(3, 2);
            due("struck", x.struck(0, 1, 0), 15);
        });
        edge(0, "Is its FAR LIMIT times DEN at most, it is 2 GOOD: just so", x -> {
            x.with(2, 2, 3).row(0, 0, 0, 1, 2).row(1, 0, 0, 3, 0);
            due("LIMIT 2", x.line(0, 1, 0), 2);
            x.set(2, 1);
            due("LIMIT 1", x.line(0, 1, 0), 1);
        });
        edge(0, "Is its FAR LIMIT times DEN at most: a little less, a little more", x -> {
            x.with(2, 1, 3).row(0, 0, 0, 300, 601).row(1, 0, 0, 301, 600);
            due("less", x.line(0, 1, 0), 2);
            due("its cost", x.line(0, 1, 4), 257);
            x.row(1, 0, 0, 302, 602);
            due("more", x.line(0, 1, 0), 1);
        });
        edge(0, "Is its FAR LIMIT times DEN at most: LIMIT 0", x -> {
            x.with(2, 0, 3).row(0, 0, 0, 300, 601).row(1, 0, 0, 1, 2);
            due("a little off", x.line(0, 1, 0), 1);
            x.row(1, 0, 0, 300, 601);
            due("exact", x.line(0, 1, 0), 2);
        });
        edge(0, "Is its FAR LIMIT times DEN at most: LIMIT 99", x -> {
            x.with(2, 99, 3).row(0, 0, 0, 1, 2).row(1, 0, 297, 0, 0);
            due("99", x.line(0, 1, 0), 2);
            due("the dearest there is", x.line(0, 1, 4), 99 * 256 + 1);
            x.hear(0, 1, 298);
            due("more", x.line(0, 1, 0), 1);
        });
        edge(0, "else, if N is LEAST, it is 1 POOR", x -> {
            x.with(2, 0, 6).row(0, 0, 0, 1, 2, 3, 4, 5).row(1, 0, 0, 1, 2, 3, 4, 6);
            due("N is LEAST", x.line(0, 1, 0), 1);
            due("none struck", x.line(0, 1, 2), 0);
            due("left", x.line(0, 1, 1), 6);
            x.set(3, 5);
            due("N is above LEAST", x.line(0, 1, 0), 2);
            due("one struck", x.line(0, 1, 2), 1);
            due("it", x.struck(0, 1, 0), 5);
            due("left", x.line(0, 1, 1), 5);
        });
        edge(0, "else the FARTHEST is STRUCK, and it is fitted anew: as often as can be", x -> {
            x.with(2, 0, 2);
            for (int b = 0; b < 16; b++) {
                x.row(0, b, 10 * b).row(1, b, b * b);
            }
            due("struck of 16 down to 2", x.line(0, 1, 2), 14);
            due("left", x.line(0, 1, 1), 2);
            due("two are exact", x.line(0, 1, 0), 2);
            due("the 14th", x.struck(0, 1, 13) >= 0 ? 1 : 0, 1);
            due("no 15th", x.struck(0, 1, 14), NONE);
            due("all of both lines", x.rule(7), 28);
            x.set(3, 3);
            due("struck down to 3", x.line(0, 1, 2), 13);
            due("three are not", x.line(0, 1, 0), 1);
        });
        edge(0, "COST: 256 FAR of the FARTHEST by DEN, up, and 1", x -> {
            x.with(2, 2, 3).row(0, 0, 0, 1, 2).row(1, 0, 0, 1, 2);
            due("exact", x.line(0, 1, 4), 1);
            x.row(1, 0, 0, 3, 0);
            due("512 just so", x.line(0, 1, 4), 513);
            x.row(1, 0, 0, 1, 0);
            due("170 and two thirds", x.line(0, 1, 4), 172);
            x.row(1, 0, 0, 0, 1);
            due("85 and a third", x.line(0, 1, 4), 87);
        });
        edge(0, "the largest numbers there are", x -> {
            x.with(2, 99, 2);
            for (int b = 0; b < 16; b++) {
                x.row(0, b, b < 8 ? 0 : 9999).row(1, b, b < 8 ? 9999 : 0);
            }
            long[] due = {16, 79992, 79992, 64L * 9999 * 9999, -64L * 9999 * 9999, 0};
            for (int what = 0; what < 6; what++) {
                due("sum " + what, x.sum(0, 1, what), due[what]);
            }
            due("falling, exact", x.line(0, 1, 4), 1);
        });
        edge(0, "a FAR that no int could hold", x -> {
            x.with(2, 99, 6).row(0, 0, 0, 0, 0, 9999, 9999, 9999).row(1, 0, 9999, 0, 9999, 0, 9999, 0);
            // Three each, their means at 6666 and 3333: 1 and 4 are 6666 off.
            due("it", x.sum(0, 1, 5), 6666L * 54 * 9999 * 9999);
            due("the lesser of both", x.line(0, 1, 3), 1);
            due("poor", x.line(0, 1, 0), 1);
            due("far", x.far(0, 1, 4), 6666 * 256);
        });
    }

    // ---- TIMES

    private static void theTimes() {
        edge(0, "B by DEN, to the nearest", x -> {
            x.with(2, 0, 2).row(0, 0, 0, 3).row(1, 0, 0, 1);
            long[][] thirds = {{0, 0}, {1, 0}, {2, 1}, {3, 1}, {4, 1}, {5, 2}, {-1, 0}, {-2, -1}, {-3, -1},
                {-4, -1}, {-5, -2}};
            for (long[] each : thirds) {
                due("a third of " + each[0], x.taken(0, 1, each[0]), each[1]);
            }
        });
        edge(0, "a half up; below 0, too: the greater", x -> {
            x.with(2, 0, 2).row(0, 0, 0, 2).row(1, 0, 0, 1);
            long[][] halves = {{1, 1}, {2, 1}, {3, 2}, {-1, 0}, {-2, -1}, {-3, -1}, {-5, -2}};
            for (long[] each : halves) {
                due("a half of " + each[0], x.taken(0, 1, each[0]), each[1]);
            }
        });
        edge(0, "a falling line", x -> {
            x.with(2, 0, 2).row(0, 0, 0, 2).row(1, 0, 1, 0);
            due("0", x.taken(0, 1, 0), 256);
            due("1", x.taken(0, 1, 1), 256);
            due("-1", x.taken(0, 1, -1), 257);
            due("512", x.taken(0, 1, 512), 0);
            due("513", x.taken(0, 1, 513), 0);
            due("515", x.taken(0, 1, 515), -1);
        });
        edge(0, "Taken by a GOOD LINE: by the POINTS that are left", x -> {
            x.with(2, 0, 3).row(0, 0, 0, 10, 20, 30).row(1, 0, 7, 17, 33, 37);
            due("struck", x.struck(0, 1, 0), 2);
            due("taken", x.taken(0, 1, 20 * 256), 27 * 256);
            due("cost", x.cost(0, 1), 1);
        });
        edge(0, "It can not be taken, if N v is beyond 64 bits", x -> {
            // N 2, X 1, XY 0: above, A is less than N v, so that N v alone is beyond.
            x.with(2, 0, 2).row(0, 0, 0, 1).row(1, 0, 0, 0);
            due("just in", x.taken(0, 1, HIGH / 2), 0);
            due("ok", x.ok(), 1);
            due("just beyond, though A is not", x.taken(0, 1, HIGH / 2 + 1), FULL);
            due("ok", x.ok(), 0);
            due("the most", x.taken(0, 1, HIGH), FULL);
            due("the least", x.taken(0, 1, LOW), FULL);
        });
        edge(0, "It can not be taken, if A is beyond 64 bits", x -> {
            x.with(2, 0, 2).row(0, 0, 0, 1).row(1, 0, 0, 0);
            due("just in", x.taken(0, 1, LOW / 2 + 128), 0);
            due("just beyond", x.taken(0, 1, LOW / 2 + 127), FULL);
            due("N v is LOW itself", x.taken(0, 1, LOW / 2), FULL);
        });
        edge(0, "It can not be taken, if XY A is beyond 64 bits: rising", x -> {
            // N 2, X 1, Y 3, XX 1, XY 3: B is XY A and 768 more.
            x.with(2, 0, 2).row(0, 0, 0, 1).row(1, 0, 0, 3);
            due("just in", x.taken(0, 1, -1537228672809129173L), -4611686018427387519L);
            due("just beyond, though B is not", x.taken(0, 1, -1537228672809129174L), FULL);
        });
        edge(0, "It can not be taken, if XY A is beyond 64 bits: falling", x -> {
            // N 2, X 1, Y 3, XX 1, XY -3.
            x.with(2, 0, 2).row(0, 0, 0, 1).row(1, 0, 3, 0);
            due("just in", x.taken(0, 1, 1537228672809129429L), -4611686018427387519L);
            due("just beyond, though B is not", x.taken(0, 1, 1537228672809129430L), FULL);
        });
        edge(0, "It can not be taken, if B is beyond 64 bits", x -> {
            x.with(2, 0, 2).row(0, 0, 0, 1).row(1, 0, 0, 3);
            due("rising, just in", x.taken(0, 1, 1537228672809129301L), 4611686018427387903L);
            due("rising, just beyond", x.taken(0, 1, 1537228672809129302L), FULL);
            due("XY A is in, B is not", x.taken(0, 1, 1537228672809129429L), FULL);
            x.row(1, 0, 3, 0);
            due("falling, just in", x.taken(0, 1, -1537228672809129045L), 4611686018427387903L);
            due("falling, just beyond", x.taken(0, 1, -1537228672809129046L), FULL);
        });
        edge(0, "It can not be taken: a wrap-around that comes back to a small number", x -> {
            x.with(2, 0, 2).row(0, 0, 0, 4).row(1, 0, 0, 1);
            // N v would be 2 to the 64th below 0, which is 0 in 64 bits.
            due("N v", x.taken(0, 1, LOW), FULL);
            x.row(0, 0, 0, 16).row(1, 0, 0, 16);
            // XY is 256: XY A would be 2 to the 64th.
            due("XY A", x.taken(0, 1, (1L << 55) + 2048), FULL);
        });
        edge(0, "It can not be taken: on the second hop alone", x -> {
            x.with(3, 0, 2).row(0, 0, 0, 1).row(1, 0, 0, 9999, 0, 1).row(2, 2, 0, 9999);
            due("one hop", x.taken(0, 1, 100_000_000_000L), 999_900_000_000_000L);
            due("two hops", x.taken(0, 2, 100_000_000_000L), FULL);
            due("two hops of less", x.taken(0, 2, 10_000_000L), 10_000_000L * 9999 * 9999);
            due("ok", x.ok(), 1);
        });
    }

    // ---- CHAINS

    private static void theChains() {
        edge(0, "each but the last with a GOOD LINE to the next: not back", x -> {
            x.with(2, 0, 2).row(0, 0, 0, 1).row(1, 0, 5, 5);
            due("there", x.cost(0, 1), 1);
            due("back", x.cost(1, 0), NONE);
        });
        edge(0, "each but the last with a GOOD LINE to the next: none by a POOR one", x -> {
            x.with(3, 2, 3).row(0, 0, 0, 1, 2).row(1, 0, 0, 3, 0, 0, 1, 2).row(2, 3, 0, 1, 2);
            due("good", x.cost(0, 2), 514);
            x.set(2, 1);
            due("poor", x.cost(0, 2), NONE);
            due("the good half", x.cost(1, 2), 1);
        });
        edge(0, "THE CHAIN is that of least COST, though it has more LINES", x -> {
            x.with(3, 2, 2).row(0, 0, 0, 1, 2).row(2, 0, 0, 1, 0).tie(0, 1, 3).tie(1, 2, 5);
            due("straight", x.line(0, 2, 4), 172);
            due("cost", x.cost(0, 2), 2);
            chainIs(x, 0, 1, 2);
        });
        edge(0, "of like ones that of fewest LINES, though its CLOCKS are greater", x -> {
            x.with(3, 1, 2).row(0, 0, 0, 300, 601).row(2, 0, 0, 1, 2).tie(0, 1, 3).tie(1, 2, 5);
            due("straight", x.line(0, 2, 4), 2);
            due("cost", x.cost(0, 2), 2);
            chainIs(x, 0, 2);
            chainIs(x, 2, 1, 0);
        });
        edge(0, "of like ones that whose CLOCKS are the least", x -> {
            x.with(4, 0, 2).tie(0, 1, 0).tie(0, 2, 2).tie(1, 3, 4).tie(2, 3, 6);
            chainIs(x, 0, 1, 3);
            chainIs(x, 3, 1, 0);
            x.lose(0, 1);
            chainIs(x, 0, 2, 3);
            chainIs(x, 1, 3, 2, 0);
        });
        edge(0, "the first that are unlike deciding", x -> {
            x.with(6, 0, 2).tie(0, 1, 0).tie(1, 4, 2).tie(4, 5, 4).tie(0, 2, 6).tie(2, 3, 8).tie(3, 5, 10);
            chainIs(x, 0, 1, 4, 5);
            chainIs(x, 5, 3, 2, 0);
        });
        edge(0, "of like ones that whose CLOCKS are the least: by CLOCK 0, by the last", x -> {
            x.with(7, 0, 2).tie(1, 0, 0).tie(0, 2, 2).tie(1, 6, 4).tie(6, 2, 6);
            chainIs(x, 1, 0, 2);
            chainIs(x, 2, 0, 1);
            x.lose(0, 0);
            chainIs(x, 1, 6, 2);
        });
        edge(0, "From r to r: r alone, COST 0", x -> {
            x.with(3, 0, 2).tie(0, 1, 0);
            for (int r = 0; r < 3; r++) {
                due("cost " + r, x.cost(r, r), 0);
                chainIs(x, r);
            }
        });
        edge(0, "the longest there is", x -> {
            x.with(7, 0, 2);
            for (int r = 0; r < 6; r++) {
                x.tie(r, r + 1, 2 * r);
            }
            chainIs(x, 0, 1, 2, 3, 4, 5, 6);
            chainIs(x, 6, 5, 4, 3, 2, 1, 0);
            due("cost", x.cost(0, 6), 6);
            due("taken", x.taken(0, 6, 77), 77);
            due("there", x.there(6, 0, 77), 0);
        });
        edge(0, "the dearest there is", x -> {
            x.with(7, 99, 3);
            for (int r = 0; r < 6; r++) {
                x.row(r, 2 * r, 0, 1, 2).row(r + 1, 2 * r, 297, 0, 0);
            }
            due("cost", x.cost(0, 6), 6 * (99 * 256 + 1));
            chainIs(x, 0, 1, 2, 3, 4, 5, 6);
        });
        edge(0, "r REACHES s, if there is one: all and none", x -> {
            x.with(7, 0, 2);
            due("none", x.rule(6), 0);
            for (int r = 0; r < 7; r++) {
                x.row(r, 0, r, r + 1);
            }
            due("all", x.rule(6), 42);
            due("of one", x.clock(3, 3), 7);
        });
    }

    private static void chainIs(Clocks x, int... clocks) {
        int r = clocks[0];
        int s = clocks[clocks.length - 1];
        for (int i = 0; i < clocks.length; i++) {
            due("chain(" + r + ", " + s + ", " + i + ")", x.chain(r, s, i), clocks[i]);
        }
        due("chain(" + r + ", " + s + ") ends", x.chain(r, s, clocks.length), NONE);
    }

    // ---- SHEETS

    private static void theSheets() {
        edge(0, "SHEETS 0 to 3", x -> {
            for (int k : new int[] {0, 3}) {
                due("sheet " + k, x.sheet(k, 0, 1), 1);
                due("lay " + k, x.lay(k, 0, 5), 1);
                due("read " + k, x.read(k, 0, 0, 0, 1), 1);
            }
            for (int k : new int[] {MIN, -1, 4, MAX}) {
                due("sheet " + k, x.sheet(k, 0, 1), BAD);
                due("lay " + k, x.lay(k, 0, 5), BAD);
                due("read " + k, x.read(k, 0, 0, 0, 1), BAD);
            }
        });
        edge(0, "each SHEET is its own", x -> {
            x.cells(0, 1, 10).cells(1, 1, 11).cells(2, 1, 12).cells(3, 1, 13);
            for (int k = 0; k < 4; k++) {
                x.read(k, 1, 0, 0, 1);
                due("cell of " + k, x.stamp(0, 0), 10 + k);
            }
        });
        edge(0, "SHORTS (lane 0), INTS (1), LONGS (2)", x -> {
            for (int lane = 0; lane < 3; lane++) {
                due("sheet of lane " + lane, x.sheet(0, lane, 1), 1);
                for (int as = 0; as < 3; as++) {
                    due(lane + " taken as " + as, x.read(0, as, 0, 0, 1), as == lane ? 1 : CAST);
                }
            }
            for (int lane : new int[] {MIN, -1, 3, MAX}) {
                due("sheet of lane " + lane, x.sheet(0, lane, 1), BAD);
                due("read as lane " + lane, x.read(0, lane, 0, 0, 1), BAD);
            }
            due("it is of longs still", x.read(0, 2, 0, 0, 1), 1);
        });
        edge(0, "all with a sign: SHORTS", x -> {
            x.cells(0, 0, 32768, 65535, -1, -32768, 0, 65536, 9999 - 65536, 9999);
            due("read", x.read(0, 0, 0, 0, 8), 8);
            stampsAre(x, NONE, NONE, NONE, NONE, 0, 0, 9999, 9999);
            x.cells(0, 0, 32767, 10000 - 65536, 55536);
            due("32767", x.read(0, 0, 0, 0, 1), -20);
            due("10000 by its lowest bits", x.read(0, 0, 1, 0, 1), -20);
            due("55536 is below 0", x.read(0, 0, 2, 0, 1), 1);
            due("lost", x.stamp(0, 0), NONE);
        });
        edge(0, "all with a sign: INTS", x -> {
            x.cells(0, 1, MIN, -1, 0, 9999, 65536, MAX);
            due("read", x.read(0, 1, 0, 0, 4), 4);
            stampsAre(x, NONE, NONE, 0, 9999);
            due("65536", x.read(0, 1, 4, 0, 1), -20);
            due("MAX", x.read(0, 1, 5, 0, 1), -20);
        });
        edge(0, "all with a sign: LONGS", x -> {
            x.cells(0, 2, MIN, -1, 0, 9999, 65536, MAX);
            due("read", x.read(0, 2, 0, 0, 4), 4);
            stampsAre(x, NONE, NONE, 0, 9999);
            due("65536", x.read(0, 2, 4, 0, 1), -20);
            due("MAX", x.read(0, 2, 5, 0, 1), -20);
        });
        edge(0, "with 0 to 48 CELLS", x -> {
            due("0", x.sheet(0, 0, 0), 1);
            due("it has none", x.count(2), 0);
            due("none to lay", x.lay(0, 0, 1), INDEX);
            due("none to read", x.read(0, 0, 0, 0, 1), INDEX);
            due("48", x.sheet(0, 0, 48), 1);
            due("it has them", x.count(2), 48);
            due("the last", x.lay(0, 47, 1), 1);
            due("behind it", x.lay(0, 48, 1), INDEX);
            due("49", x.sheet(0, 0, 49), BAD);
            due("MAX", x.sheet(0, 0, MAX), BAD);
        });
        edge(0, "or nothing (at first)", x -> {
            for (int k = 0; k < 4; k++) {
                due("lay " + k, x.lay(k, 0, 1), NULL);
                due("read " + k, x.read(k, 0, 0, 0, 1), NULL);
            }
            due("count(2)", x.count(2), NONE);
        });
        edge(0, "A FAULT is the first of these: 1 NULL, 2 CAST, 3 INDEX", x -> {
            due("NULL before INDEX, lay", x.lay(0, -1, 1), NULL);
            for (int lane = 0; lane < 3; lane++) {
                due("NULL before CAST, INDEX", x.read(0, lane, -1, 0, 1), NULL);
            }
            x.sheet(0, 1, 1);
            due("CAST before INDEX", x.read(0, 0, -1, 0, 1), CAST);
            due("CAST before INDEX", x.read(0, 2, 1, 0, 1), CAST);
            due("INDEX", x.read(0, 1, 1, 0, 1), INDEX);
        });
        edge(0, "a CAST is met before a CELL above 9999", x -> {
            x.cells(0, 1, 10000);
            due("CAST", x.read(0, 2, 0, 0, 1), CAST);
            due("as it is", x.read(0, 1, 0, 0, 1), -20);
        });
    }

    private static void stampsAre(Clocks x, int... due) {
        for (int b = 0; b < due.length; b++) {
            due("stamp(" + b + ", 0)", x.stamp(b, 0), due[b]);
        }
    }

    // ---- the promises, one by one

    private static void promises1To5() {
        edge(1, "One CLOCK that heard nothing", x -> {
            int[] due = {1, 0, 2, 3, 0, 0, 0, 0, 16};
            for (int what = 0; what < due.length; what++) {
                due("rule(" + what + ")", x.rule(what), due[what]);
            }
            for (int b = 0; b < 16; b++) {
                due("stamp(" + b + ", 0)", x.stamp(b, 0), NONE);
            }
        });
        edge(1, "SHEETS of nothing; no IMAGES, an empty TAPE, no FAULT", x -> {
            due("count(0)", x.count(0), 0);
            due("count(1)", x.count(1), 0);
            due("count(2)", x.count(2), NONE);
            due("fault()", x.fault(), 0);
            due("back(0)", x.back(0), STATE);
            due("back(1)", x.back(1), STATE);
        });
        edge(1, "each object is its own", x -> {
            Clocks y = new Clocks();
            x.hear(0, 0, 5);
            x.sheet(0, 0, 3);
            x.feed('a');
            x.keep(0);
            x.taken(0, 0, 1);
            due("stamp", y.stamp(0, 0), NONE);
            due("sheet", y.count(2), NONE);
            due("tape", y.count(1), 0);
            due("images", y.count(0), 0);
            due("ok", y.ok(), 0);
        });
        edge(2, "A byte (0 to 127): each of them", x -> {
            for (int c = 0; c < 128; c++) {
                due("feed(" + c + ")", x.feed(c), c + 1);
            }
        });
        edge(2, "BAD", x -> {
            for (int c : new int[] {MIN, -128, -1, 128, 255, 256 + ' ', MAX}) {
                due("feed(" + c + ")", x.feed(c), BAD);
            }
            due("count(1)", x.count(1), 0);
        });
        edge(2, "FULL: more than 300; then there is room again", x -> {
            x.put("clocks 3;" + " ".repeat(291));
            due("full", x.feed('?'), FULL);
            due("full still", x.feed('?'), FULL);
            due("end", x.end(299), 300);
            due("room", x.feed(' '), 300);
            due("full again", x.feed('?'), FULL);
            due("text", x.text(), 0);
            due("empty", x.feed(' '), 1);
        });
        edge(3, "THE TAPE keeps its first n bytes: how many it had", x -> {
            x.put("clocks 3;?");
            due("all", x.end(10), 10);
            due("one less", x.end(9), 10);
            due("text", x.text(), 0);
            due("clocks", x.rule(0), 3);
        });
        edge(3, "an empty one", x -> {
            due("end(0)", x.end(0), 0);
            due("end(1)", x.end(1), BAD);
        });
        edge(3, "to nothing", x -> {
            x.put("abc");
            due("end(0)", x.end(0), 3);
            due("count(1)", x.count(1), 0);
            due("end(0) again", x.end(0), 0);
        });
        edge(3, "BAD (n above that, too)", x -> {
            x.put("abc");
            for (int n : new int[] {MIN, -1, 4, 300, MAX}) {
                due("end(" + n + ")", x.end(n), BAD);
            }
            due("count(1)", x.count(1), 3);
        });
        edge(3, "what was cut is not told", x -> {
            x.put("clocks 1;hear 0 0 7;");
            x.end(9);
            x.put("hear 1 0 8;");
            due("text", x.text(), 1);
            due("stamp(0, 0)", x.stamp(0, 0), NONE);
            due("stamp(1, 0)", x.stamp(1, 0), 8);
        });
        edge(4, "THE TAPE (empty then, by a FAULT, too)", x -> {
            x.tell("clocks 1;");
            due("taken", x.count(1), 0);
            x.tell("?");
            due("by a FAULT", x.count(1), 0);
            due("so the next begins anew", x.tell("clocks 1;"), 0);
        });
        edge(4, "tells all: how many STAMPS", x -> {
            StringBuilder text = new StringBuilder("clocks7;");
            for (int i = 0; i < 25; i++) {
                text.append("hear").append(i / 7).append(' ').append(i % 7).append(" 1;");
            }
            due("25", x.tell(text.toString()), 25);
            due("rule(1)", x.rule(1), 25);
            due("none", x.tell("clocks 1;"), 0);
        });
        edge(4, "-10 less the place of its FAULT: that which was told stays", x -> {
            x.tell("clocks 2;hear 0 1 5;limit 9;least 4;");
            x.keep(1);
            x.sheet(0, 1, 7);
            x.taken(0, 0, 0);
            due("text", x.tell("clocks 3;hear 0 1 6;limit 8;least 5;?"), -46);
            due("clocks", x.rule(0), 2);
            due("stamps", x.rule(1), 1);
            due("stamp", x.stamp(0, 1), 5);
            due("limit", x.rule(2), 9);
            due("least", x.rule(3), 4);
            due("images", x.count(0), 1);
            due("sheets", x.count(2), 7);
            due("ok", x.ok(), 1);
            due("the image", x.back(1), 1);
        });
        edge(4, "an empty TAPE", x -> {
            due("text()", x.text(), -10);
            due("fault()", x.fault(), 2);
            due("clocks", x.rule(0), 1);
        });
        edge(5, "The FAULT of the latest text(); 0", x -> {
            due("at first", x.fault(), 0);
            int[] faults = {1, 2, 3, 4, 0, 4, 0, 1};
            String[] texts = {"", "?", "a", "clocks 8", "clocks 1;limit 1;limit"};
            for (int fault : faults) {
                x.tell(fault == 0 ? "clocks 1;" : texts[fault]);
                due("fault " + fault, x.fault(), fault);
                due("told again", x.fault(), fault);
            }
        });
        edge(5, "other calls leave it", x -> {
            x.tell("clocks 8");
            x.feed('?');
            x.feed(128);
            x.end(0);
            x.draw(1, 2);
            x.keep(0);
            x.back(0);
            x.hear(99, 0, 0);
            x.read(0, 0, 0, 0, 1);
            due("fault", x.fault(), 3);
        });
    }

    private static void promises6To8() {
        edge(6, "BAD", x -> {
            for (int what : new int[] {MIN, -1, 9, MAX}) {
                due("rule(" + what + ")", x.rule(what), BAD);
            }
        });
        edge(6, "1 STAMPS: none, all", x -> {
            due("none", x.rule(1), 0);
            x.tell("clocks 7;");
            for (int r = 0; r < 7; r++) {
                x.sheet(0, 0, 16);
                x.read(0, 0, 0, r, 16);
            }
            due("all", x.rule(1), 112);
            due("nobody heard", x.rule(8), 0);
        });
        edge(6, "4 GOOD LINES, 5 POOR ones: there and back are two", x -> {
            x.with(2, 2, 3).row(0, 0, 0, 1, 2).row(1, 0, 0, 1, 2);
            due("good", x.rule(4), 2);
            due("poor", x.rule(5), 0);
            x.hear(1, 1, 50);
            x.set(2, 0);
            due("good", x.rule(4), 0);
            due("poor", x.rule(5), 2);
            x.lose(1, 1);
            due("neither", x.rule(4) + x.rule(5), 0);
        });
        edge(6, "6 how many r REACH how many s, both not the same", x -> {
            x.with(3, 0, 2);
            due("none", x.rule(6), 0);
            x.tie(0, 1, 0);
            due("two", x.rule(6), 2);
            x.row(1, 2, 0, 1).row(2, 2, 5, 5);
            due("by a chain, too", x.rule(6), 4);
        });
        edge(6, "7 POINTS STRUCK of all LINES", x -> {
            x.with(3, 0, 3).row(0, 0, 0, 10, 20, 30).row(1, 0, 0, 10, 25, 30).row(2, 0, 0, 10, 20, 30);
            due("four lines with one each", x.rule(7), 4);
            x.set(3, 4);
            due("none of poor ones", x.rule(7), 0);
        });
        edge(6, "8 BEACONS that nobody heard", x -> {
            x.with(2, 2, 3);
            due("all", x.rule(8), 16);
            x.hear(0, 0, 0);
            x.hear(0, 1, 0);
            x.hear(15, 1, 0);
            due("all but two", x.rule(8), 14);
            x.lose(0, 0);
            due("one heard it still", x.rule(8), 14);
            x.lose(0, 1);
            due("now nobody", x.rule(8), 15);
        });
        edge(6, "8 BEACONS that nobody heard: by the first alone, by the last alone", x -> {
            x.with(7, 2, 3);
            due("all", x.rule(8), 16);
            x.hear(3, 0, 0);
            due("the first", x.rule(8), 15);
            x.hear(4, 6, 0);
            due("the last", x.rule(8), 14);
        });
        edge(6, "4, 5, 7 of the most CLOCKS there are", x -> {
            x.with(7, 0, 3);
            for (int r = 0; r < 7; r++) {
                x.row(r, 0, r, r == 6 ? 22 : 10 + r, 20 + r, 30 + r);
            }
            due("good", x.rule(4), 42);
            due("struck, from the last and to it", x.rule(7), 12);
            due("from the last", x.clock(6, 1), 6);
            due("to the last", x.clock(6, 2), 6);
            due("from the first", x.clock(0, 1), 6);
            due("to the first", x.clock(0, 2), 6);
            x.set(3, 4);
            due("good", x.rule(4), 30);
            due("poor", x.rule(5), 12);
            due("struck", x.rule(7), 0);
            due("of the last", x.clock(6, 1) + x.clock(6, 2), 0);
        });
        edge(7, "The STAMP of a BEACON that a CLOCK has: 0 is one", x -> {
            x.hear(3, 0, 0);
            due("stamp(3, 0)", x.stamp(3, 0), 0);
            due("stamp(2, 0)", x.stamp(2, 0), NONE);
            due("stamp(4, 0)", x.stamp(4, 0), NONE);
        });
        edge(7, "BAD; NONE", x -> {
            due("BEACON -1", x.stamp(-1, 0), BAD);
            due("BEACON 16", x.stamp(16, 0), BAD);
            due("CLOCK -1", x.stamp(0, -1), BAD);
            due("CLOCK 1", x.stamp(0, 1), BAD);
            due("NONE", x.stamp(0, 0), NONE);
        });
        edge(8, "0 STAMPS: none, all", x -> {
            due("none", x.clock(0, 0), 0);
            x.sheet(0, 0, 16);
            x.read(0, 0, 0, 0, 16);
            due("all", x.clock(0, 0), 16);
        });
        edge(8, "1 GOOD LINES from it, 2 GOOD LINES to it", x -> {
            x.with(3, 0, 2).row(0, 0, 0, 1).row(1, 0, 5, 5).row(2, 0, 7, 8);
            int[][] due = {{2, 1}, {0, 2}, {2, 1}};
            for (int r = 0; r < 3; r++) {
                due("from " + r, x.clock(r, 1), due[r][0]);
                due("to " + r, x.clock(r, 2), due[r][1]);
            }
        });
        edge(8, "1, 2: a POOR one is none", x -> {
            x.with(2, 0, 3).row(0, 0, 0, 1, 2).row(1, 0, 0, 3, 0);
            due("poor", x.line(0, 1, 0), 1);
            due("from", x.clock(0, 1), 0);
            due("to", x.clock(1, 2), 0);
        });
        edge(8, "3 CLOCKS that it REACHES (with itself)", x -> {
            due("one alone", x.clock(0, 3), 1);
            x.with(3, 0, 2).row(0, 0, 0, 1).row(1, 0, 5, 5);
            due("itself and 1", x.clock(0, 3), 2);
            due("itself", x.clock(1, 3), 1);
            due("itself", x.clock(2, 3), 1);
        });
        edge(8, "BAD", x -> {
            for (int what : new int[] {MIN, -1, 4, MAX}) {
                due("clock(0, " + what + ")", x.clock(0, what), BAD);
            }
            for (int r : new int[] {MIN, -1, 1, MAX}) {
                due("clock(" + r + ", 0)", x.clock(r, 0), BAD);
            }
        });
    }

    private static void promises9To12() {
        edge(9, "1 POINTS that are left (0 if there is no LINE)", x -> {
            x.with(2, 0, 3).row(0, 0, 0, 10).row(1, 0, 0, 10);
            due("two of three", x.line(0, 1, 1), 0);
            x.row(0, 2, 20, 30).row(1, 2, 20, 35);
            due("one was struck", x.line(0, 1, 1), 3);
            x.row(0, 0, 5, 5, 5, 5);
            due("XX 0", x.line(0, 1, 1), 0);
        });
        edge(9, "2 POINTS STRUCK: none without a LINE", x -> {
            x.with(2, 0, 3);
            due("no points", x.line(0, 1, 2), 0);
            x.row(0, 0, 5, 5, 5, 5).row(1, 0, 1, 2, 3, 4);
            due("XX 0", x.line(0, 1, 2), 0);
        });
        edge(9, "3 the FARTHEST's BEACON: of those that are left", x -> {
            x.with(2, 2, 3).row(0, 0, 0, 10, 20, 30).row(1, 0, 0, 99, 21, 30);
            due("struck", x.struck(0, 1, 0), 1);
            due("farthest", x.line(0, 1, 3), 2);
        });
        edge(9, "3: NONE if there is no LINE; 4: NONE if it is not GOOD", x -> {
            x.with(2, 0, 3);
            due("3 of none", x.line(0, 1, 3), NONE);
            due("4 of none", x.line(0, 1, 4), NONE);
            x.row(0, 0, 0, 1, 2).row(1, 0, 0, 3, 0);
            due("3 of a poor one", x.line(0, 1, 3), 1);
            due("4 of a poor one", x.line(0, 1, 4), NONE);
            x.set(2, 2);
            due("4 of a good one", x.line(0, 1, 4), 513);
        });
        edge(9, "3, 4: NONE, though there are POINTS", x -> {
            x.with(2, 9, 3).row(0, 0, 0, 10).row(1, 0, 0, 10);
            due("0 of N below LEAST", x.line(0, 1, 0), 0);
            due("3 of N below LEAST", x.line(0, 1, 3), NONE);
            due("4 of N below LEAST", x.line(0, 1, 4), NONE);
            x.row(0, 0, 5, 5, 5);
            x.hear(2, 1, 7);
            due("0 of XX 0", x.line(0, 1, 0), 0);
            due("3 of XX 0", x.line(0, 1, 3), NONE);
            due("4 of XX 0", x.line(0, 1, 4), NONE);
            due("far of XX 0", x.far(0, 1, 0), NONE);
            due("sum of XX 0", x.sum(0, 1, 0), NONE);
        });
        edge(9, "BAD: also r is s", x -> {
            x.with(2, 2, 3);
            for (int what = 0; what < 5; what++) {
                due("line(1, 1, " + what + ")", x.line(1, 1, what), BAD);
            }
            for (int what : new int[] {MIN, -1, 5, MAX}) {
                due("line(0, 1, " + what + ")", x.line(0, 1, what), BAD);
            }
        });
        edge(10, "of those that are left", x -> {
            x.with(2, 0, 3).row(0, 0, 0, 10, 20, 30).row(1, 0, 0, 10, 25, 30);
            long[] due = {3, 40, 40, 3 * 1000 - 1600, 3 * 1000 - 1600, 0};
            for (int what = 0; what < 6; what++) {
                due("sum(0, 1, " + what + ")", x.sum(0, 1, what), due[what]);
            }
        });
        edge(10, "a POOR one has them, too", x -> {
            x.with(2, 0, 3).row(0, 0, 0, 1, 2).row(1, 0, 0, 3, 0);
            due("FAR", x.sum(0, 1, 5), 36);
        });
        edge(10, "XY below 0 as it is", x -> {
            x.with(2, 0, 2).row(0, 0, 0, 2).row(1, 0, 1, 0);
            due("XY", x.sum(0, 1, 4), -2);
            x.row(1, 0, 2, 0);
            due("XY that looks like NONE", x.sum(0, 1, 4), -4);
        });
        edge(10, "BAD: also r is s; NONE: there is no LINE", x -> {
            x.with(2, 2, 3);
            for (int what = 0; what < 6; what++) {
                due("sum(1, 1, " + what + ")", x.sum(1, 1, what), BAD);
                due("sum(0, 1, " + what + ")", x.sum(0, 1, what), NONE);
            }
            for (int what : new int[] {MIN, -1, 6, MAX}) {
                due("sum(0, 1, " + what + ")", x.sum(0, 1, what), BAD);
            }
        });
        edge(11, "The i-th BEACON (0 on) that was STRUCK, by when", x -> {
            x.with(2, 0, 3).row(0, 0, 0, 10, 20, 30, 40, 50).row(1, 0, 0, 15, 20, 30, 99, 50);
            due("the first", x.struck(0, 1, 0), 4);
            due("the second", x.struck(0, 1, 1), 1);
            due("no third", x.struck(0, 1, 2), NONE);
        });
        edge(11, "BAD: also r is s, i below 0; NONE: there are not so many", x -> {
            x.with(2, 0, 3).row(0, 0, 0, 10, 20, 30).row(1, 0, 0, 10, 25, 30);
            due("r is s", x.struck(1, 1, 0), BAD);
            due("-1", x.struck(0, 1, -1), BAD);
            due("MIN", x.struck(0, 1, MIN), BAD);
            due("0", x.struck(0, 1, 0), 2);
            for (int i : new int[] {1, 15, 16, MAX}) {
                due("" + i, x.struck(0, 1, i), NONE);
            }
        });
        edge(11, "what was struck before it is fitted anew is not told", x -> {
            x.with(2, 0, 3).row(0, 0, 0, 10, 20, 30).row(1, 0, 0, 10, 25, 30);
            due("before", x.struck(0, 1, 0), 2);
            x.hear(2, 1, 20);
            due("then", x.struck(0, 1, 0), NONE);
            due("also if there is none in the end", x.lose(0, 0) + x.lose(1, 0), 10);
            due("no line", x.struck(0, 1, 0), NONE);
        });
        edge(12, "of one that was STRUCK, too", x -> {
            x.with(2, 0, 2).row(0, 0, 0, 1, 9999).row(1, 0, 0, 9999, 0);
            due("struck", x.struck(0, 1, 0), 1);
            due("far", x.far(0, 1, 1), 9999 * 256);
            due("of those left", x.far(0, 1, 0) + x.far(0, 1, 2), 0);
        });
        edge(12, "by DEN, times 256, up", x -> {
            x.with(2, 2, 3).row(0, 0, 0, 1, 2).row(1, 0, 0, 1, 0);
            due("85 and a third", x.far(0, 1, 0), 86);
            due("170 and two thirds", x.far(0, 1, 1), 171);
            x.row(1, 0, 0, 3, 0);
            due("256 just so", x.far(0, 1, 0), 256);
            x.row(0, 0, 0, 300, 601).row(1, 0, 0, 1, 2);
            due("a little above 0", x.far(0, 1, 0), 1);
        });
        edge(12, "BAD: also r is s; NONE: there is no LINE, no such POINT", x -> {
            x.with(3, 0, 2).row(0, 0, 0, 1, 2).row(1, 0, 0, 1, -1, 3).row(2, 0, 4, -1);
            due("r is s", x.far(0, 0, 0), BAD);
            due("there is no LINE", x.far(0, 2, 0), NONE);
            due("s did not hear it", x.far(0, 1, 2), NONE);
            due("r did not hear it", x.far(0, 1, 3), NONE);
            due("nobody heard it", x.far(0, 1, 15), NONE);
            due("a point", x.far(0, 1, 1), 0);
        });
    }

    private static void promises13To14() {
        edge(13, "BAD; NONE: there is none", x -> {
            x.with(2, 0, 2);
            due("none", x.cost(0, 1), NONE);
            due("to itself", x.cost(1, 1), 0);
            for (int r : new int[] {MIN, -1, 2, MAX}) {
                due("cost(" + r + ", 0)", x.cost(r, 0), BAD);
                due("cost(0, " + r + ")", x.cost(0, r), BAD);
                due("cost(" + r + ", " + r + ")", x.cost(r, r), BAD);
            }
        });
        edge(13, "a CHAIN that was is told no more", x -> {
            x.with(3, 0, 2).tie(0, 1, 0).tie(1, 2, 2);
            due("before", x.cost(0, 2), 2);
            x.lose(2, 1);
            due("then", x.cost(0, 2), NONE);
            x.hear(2, 1, 0);
            due("again", x.cost(0, 2), 2);
        });
        edge(14, "NONE: there are not so many", x -> {
            x.with(3, 0, 2).tie(0, 1, 0);
            due("the last", x.chain(0, 1, 1), 1);
            due("behind it", x.chain(0, 1, 2), NONE);
            due("far behind it", x.chain(0, 1, MAX), NONE);
            due("no chain", x.chain(0, 2, 0), NONE);
            due("alone", x.chain(2, 2, 0), 2);
            due("behind it", x.chain(2, 2, 1), NONE);
        });
        edge(14, "BAD: r, s, i below 0", x -> {
            due("i -1", x.chain(0, 0, -1), BAD);
            due("i MIN", x.chain(0, 0, MIN), BAD);
            due("r", x.chain(1, 0, 0), BAD);
            due("s", x.chain(0, 1, 0), BAD);
            due("r and i", x.chain(1, 0, -1), BAD);
        });
    }

    private static void promises15To17() {
        edge(15, "from r to r, whatever v is", x -> {
            for (long v : new long[] {LOW, LOW + 1, -1, 0, 1, HIGH - 1, HIGH}) {
                due("taken(0, 0, " + v + ")", x.taken(0, 0, v), v);
                due("ok", x.ok(), 1);
            }
        });
        edge(15, "STATE: r does not REACH s", x -> {
            x.with(2, 0, 2).row(0, 0, 0, 1).row(1, 0, 5, 5);
            due("it does", x.taken(0, 1, 7), 5 * 256);
            due("it does not", x.taken(1, 0, 7), STATE);
            due("ok", x.ok(), 0);
        });
        edge(15, "It may be below 0 as it is: ok() tells", x -> {
            for (int v : new int[] {BAD, STATE, FULL, NONE}) {
                due("taken(0, 0, " + v + ")", x.taken(0, 0, v), v);
                due("ok", x.ok(), 1);
            }
            due("BAD", x.taken(0, 1, -1), BAD);
            due("ok", x.ok(), 0);
        });
        edge(15, "along THE CHAIN, rounded a hop at a time", x -> {
            x.with(3, 0, 2).row(0, 0, 0, 2).row(1, 0, 0, 1).row(1, 2, 0, 1).row(2, 2, 0, 2);
            due("1", x.taken(0, 2, 1), 2);
            due("2", x.taken(0, 2, 2), 2);
            due("-1", x.taken(0, 2, -1), 0);
            due("-2", x.taken(0, 2, -2), -2);
        });
        edge(16, "0 at first", x -> due("ok", x.ok(), 0));
        edge(16, "Whether the latest taken() was not refused", x -> {
            x.with(3, 0, 2).tie(0, 1, 0);
            long[][] calls = {{0, 1, 5, 1}, {0, 2, 5, 0}, {0, 1, 5, 1}, {0, 3, 5, 0}, {0, 1, 5, 1}, {0, 1, HIGH, 0}};
            for (long[] c : calls) {
                x.taken((int) c[0], (int) c[1], c[2]);
                due("ok behind taken", x.ok(), c[3]);
                due("told again", x.ok(), c[3]);
            }
        });
        edge(16, "Whether the latest there() was not refused", x -> {
            x.with(3, 0, 2).tie(0, 1, 0);
            long[][] calls = {{0, 1, 5, 1}, {0, 2, 5, 0}, {0, 1, 5, 1}, {0, 3, 5, 0}, {0, 1, 5, 1}, {0, 1, HIGH, 0}};
            for (long[] c : calls) {
                x.there((int) c[0], (int) c[1], c[2]);
                due("ok behind there", x.ok(), c[3]);
            }
        });
        edge(17, "taken to s, and back to r, less v", x -> {
            x.with(2, 0, 2).row(0, 0, 0, 2).row(1, 0, 0, 1);
            due("8", x.there(0, 1, 8), 0);
            due("9", x.there(0, 1, 9), 1);
            due("-9", x.there(0, 1, -9), 1);
            due("the other way", x.there(1, 0, 9), 0);
            x.row(0, 0, 0, 3);
            due("less than 0", x.there(0, 1, 4), -1);
            due("ok", x.ok(), 1);
        });
        edge(17, "from r to r, whatever v is", x -> {
            for (long v : new long[] {LOW, -1, 0, HIGH}) {
                due("there(0, 0, " + v + ")", x.there(0, 0, v), 0);
                due("ok", x.ok(), 1);
            }
        });
        edge(17, "STATE: r does not REACH s, or s not r", x -> {
            x.with(3, 0, 2).row(0, 0, 0, 1).row(1, 0, 5, 5);
            due("1 does not reach 0", x.there(0, 1, 7), STATE);
            due("1 does not reach 0", x.there(1, 0, 7), STATE);
            due("neither", x.there(0, 2, 7), STATE);
            due("ok", x.ok(), 0);
        });
        edge(17, "back by another way: each has its own CHAIN", x -> {
            // 0 to 1 is good, 1 to 0 is not (one x); back it goes by 2.
            x.with(3, 0, 2).row(0, 0, 0, 1).row(1, 0, 5, 5).tie(1, 2, 2).tie(2, 0, 4);
            due("there", x.chain(0, 1, 1), 1);
            due("back", x.chain(1, 0, 1), 2);
            due("all comes to 5", x.there(0, 1, 7), 5 * 256 - 7);
            due("below 0", x.there(0, 1, 2000), 5 * 256 - 2000);
        });
        edge(17, "FULL: it can not be taken, there", x -> {
            x.with(2, 0, 2).tie(0, 1, 0);
            due("just in, above", x.there(0, 1, HIGH / 2), 0);
            due("just beyond, above", x.there(0, 1, HIGH / 2 + 1), FULL);
            due("just in, below", x.there(0, 1, LOW / 2 + 128), 0);
            due("just beyond, below", x.there(0, 1, LOW / 2 + 127), FULL);
            due("ok", x.ok(), 0);
        });
        edge(17, "FULL: it can not be taken, back", x -> {
            // There it is 9999 as many; back XY A is 2 times 9999 times that.
            x.with(2, 0, 2).row(0, 0, 0, 1).row(1, 0, 0, 9999);
            due("there", x.taken(0, 1, 1_000_000_000_000L), 9_999_000_000_000_000L);
            due("ok", x.ok(), 1);
            due("there and back", x.there(0, 1, 1_000_000_000_000L), FULL);
            due("ok", x.ok(), 0);
            due("of less", x.there(0, 1, 10_000_000_000L), 0);
            due("ok", x.ok(), 1);
        });
    }

    private static void promises18To22() {
        edge(18, "what it had (NONE: none)", x -> {
            due("none", x.hear(0, 0, 9), NONE);
            due("9", x.hear(0, 0, 0), 9);
            due("0", x.hear(0, 0, 0), 0);
            due("0 again", x.hear(0, 0, 9999), 0);
            due("9999", x.hear(0, 0, 1), 9999);
            due("one stamp", x.rule(1), 1);
        });
        edge(18, "BAD", x -> {
            int[][] wrong = {{-1, 0, 0}, {16, 0, 0}, {0, -1, 0}, {0, 1, 0}, {0, 0, -1}, {0, 0, 10000},
                {MIN, 0, 0}, {MAX, 0, 0}, {0, MIN, 0}, {0, MAX, 0}, {0, 0, MIN}, {0, 0, MAX}};
            for (int[] w : wrong) {
                due("hear" + Arrays.toString(w), x.hear(w[0], w[1], w[2]), BAD);
            }
            due("stamps", x.rule(1), 0);
        });
        edge(18, "LINES are fitted anew, from it and to it", x -> {
            x.with(3, 0, 3).row(0, 0, 0, 10, 20).row(1, 0, 0, 10, 20).row(2, 0, 0, 10, 20);
            due("good", x.rule(4), 6);
            x.hear(1, 1, 15);
            due("from", x.line(1, 0, 0), 1);
            due("to", x.line(0, 1, 0), 1);
            due("of others", x.line(0, 2, 0), 2);
        });
        edge(19, "what it had", x -> {
            x.row(0, 0, 0, 9999);
            due("0", x.lose(0, 0), 0);
            due("9999", x.lose(1, 0), 9999);
            due("stamps", x.rule(1), 0);
        });
        edge(19, "BAD; NONE", x -> {
            int[][] wrong = {{-1, 0}, {16, 0}, {0, -1}, {0, 1}, {MIN, 0}, {MAX, 0}, {0, MIN}, {0, MAX}};
            for (int[] w : wrong) {
                due("lose" + Arrays.toString(w), x.lose(w[0], w[1]), BAD);
            }
            due("NONE", x.lose(0, 0), NONE);
            x.hear(0, 0, 5);
            x.lose(0, 0);
            due("NONE, the second time", x.lose(0, 0), NONE);
        });
        edge(19, "of that CLOCK and BEACON alone", x -> {
            x.with(2, 2, 3).row(0, 0, 1, 2).row(1, 0, 3, 4);
            due("lose", x.lose(0, 0), 1);
            due("stamp(1, 0)", x.stamp(1, 0), 2);
            due("stamp(0, 1)", x.stamp(0, 1), 3);
        });
        edge(20, "c (-9999 to 9999)", x -> {
            x.hear(0, 0, 0);
            due("9999", x.shift(0, 9999), 1);
            due("it", x.stamp(0, 0), 9999);
            due("-9999", x.shift(0, -9999), 1);
            due("it", x.stamp(0, 0), 0);
            for (int c : new int[] {MIN, -10000, 10000, MAX}) {
                due("shift by " + c, x.shift(0, c), BAD);
            }
        });
        edge(20, "how many: none, all", x -> {
            due("none", x.shift(0, 9999), 0);
            due("none is not told", x.stamp(0, 0), NONE);
            x.sheet(0, 0, 16);
            x.read(0, 0, 0, 0, 16);
            due("all", x.shift(0, 3), 16);
            due("by 0", x.shift(0, 0), 16);
            for (int b = 0; b < 16; b++) {
                due("stamp " + b, x.stamp(b, 0), 3);
            }
        });
        edge(20, "BAD, though there is nothing to shift", x -> {
            due("10000", x.shift(0, 10000), BAD);
            due("-10000", x.shift(0, -10000), BAD);
        });
        edge(20, "STATE: one would be below 0", x -> {
            x.row(0, 0, 500, 3, 700);
            due("just so", x.shift(0, -3), 3);
            due("it", x.stamp(1, 0), 0);
            due("one more", x.shift(0, -1), STATE);
            due("none has changed", x.stamp(0, 0) + x.stamp(1, 0) + x.stamp(2, 0), 497 + 697);
        });
        edge(20, "STATE: one would be above 9999", x -> {
            x.row(0, 0, 500, 9990, 700);
            due("just so", x.shift(0, 9), 3);
            due("it", x.stamp(1, 0), 9999);
            due("one more", x.shift(0, 1), STATE);
            due("none has changed", x.stamp(0, 0) + x.stamp(1, 0) + x.stamp(2, 0), 509 + 9999 + 709);
        });
        edge(20, "STATE: the last BEACON's", x -> {
            x.row(0, 0, 500).row(0, 15, 0);
            due("below", x.shift(0, -1), STATE);
            due("not changed", x.stamp(0, 0), 500);
            x.hear(15, 0, 9999);
            due("above", x.shift(0, 1), STATE);
            due("not changed", x.stamp(0, 0), 500);
        });
        edge(20, "of that CLOCK alone, its LINES are fitted anew", x -> {
            x.with(2, 0, 2).tie(0, 1, 0);
            due("before", x.taken(0, 1, 0), 0);
            due("shift", x.shift(1, 7), 2);
            due("stamp(0, 0)", x.stamp(0, 0), 0);
            due("then", x.taken(0, 1, 0), 7 * 256);
            due("back", x.taken(1, 0, 0), -7 * 256);
        });
        edge(21, "LIMIT (what 2), LEAST (3) becomes v: what it was", x -> {
            due("LIMIT", x.set(2, 5), 2);
            due("LEAST", x.set(3, 5), 3);
            due("LIMIT again", x.set(2, 3), 5);
            due("LEAST again", x.set(3, 4), 5);
            due("LIMIT is", x.rule(2), 3);
            due("LEAST is", x.rule(3), 4);
        });
        edge(21, "BAD", x -> {
            int[][] wrong = {{2, -1}, {2, 100}, {2, MIN}, {2, MAX}, {3, 1}, {3, 7}, {3, 0}, {3, MIN}, {3, MAX},
                {1, 3}, {4, 3}, {0, 3}, {-1, 3}, {MIN, 3}, {MAX, 3}};
            for (int[] w : wrong) {
                due("set" + Arrays.toString(w), x.set(w[0], w[1]), BAD);
            }
            due("LIMIT", x.rule(2), 2);
            due("LEAST", x.rule(3), 3);
        });
        edge(21, "LINES are fitted anew", x -> {
            x.with(2, 2, 3).row(0, 0, 0, 1, 2).row(1, 0, 0, 3, 0);
            due("good", x.line(0, 1, 0), 2);
            x.set(2, 1);
            due("poor", x.line(0, 1, 0), 1);
            x.set(3, 4);
            due("none", x.line(0, 1, 0), 0);
            x.set(3, 2);
            due("good by two", x.line(0, 1, 1), 2);
        });
        edge(22, "n CLOCKS (1 to 7); BAD", x -> {
            for (int n : new int[] {MIN, -1, 0, 8, MAX}) {
                due("draw(1, " + n + ")", x.draw(1, n), BAD);
            }
            for (int n = 1; n <= 7; n++) {
                due("draw(1, " + n + ")", x.draw(1, n) > 0 ? 1 : 0, 1);
                due("clocks", x.rule(0), n);
            }
        });
        edge(22, "LIMIT, LEAST, IMAGES stay", x -> {
            x.with(2, 50, 5);
            x.hear(0, 1, 8);
            x.keep(1);
            x.draw(9, 4);
            due("LIMIT", x.rule(2), 50);
            due("LEAST", x.rule(3), 5);
            due("IMAGES", x.count(0), 1);
            due("back", x.back(1), 1);
            due("stamp", x.stamp(0, 1), 8);
        });
        edge(22, "SHEETS, THE TAPE, what ok(), fault() tell stay", x -> {
            x.tell("clocks 8");
            x.put("ab");
            x.sheet(0, 1, 5);
            x.taken(0, 0, 0);
            x.draw(9, 4);
            due("fault", x.fault(), 3);
            due("tape", x.count(1), 2);
            due("sheet", x.count(2), 5);
            due("ok", x.ok(), 1);
        });
        edge(22, "the seed becomes seed times 1103515245 and 12345, with its wrap-around", x -> {
            // Seed 0 becomes 12345: bits 16 to 30 are 0; then 1406932606, whose bits are 21468.
            due("draw(0, 1)", x.draw(0, 1) > 0 ? 1 : 0, 1);
            for (int seed : new int[] {0, 1, -1, 12345, MIN, MIN + 1, MAX, MAX - 1}) {
                Clocks y = new Clocks();
                drawnAsDue(y, seed, 2);
            }
        });
        edge(22, "in place of what there was", x -> {
            x.draw(4, 7);
            drawnAsDue(x, 5, 3);
        });
        edge(22, "in place of what there was: LINES are fitted anew", x -> {
            x.with(2, 99, 2).tie(0, 1, 0);
            due("before", x.sum(0, 1, 0), 2);
            x.draw(5, 2);
            int both = 0;
            for (int b = 0; b < 16; b++) {
                both += x.stamp(b, 0) != NONE && x.stamp(b, 1) != NONE ? 1 : 0;
            }
            due("then", x.line(0, 1, 1) + x.line(0, 1, 2), both);
        });
        edge(22, "the same seed, the same STAMPS", x -> {
            int all = x.draw(77, 3);
            int one = x.stamp(8, 2);
            x.draw(78, 5);
            due("stamps", x.draw(77, 3), all);
            due("one of them", x.stamp(8, 2), one);
        });
    }

    /** By numbers without wrap-around: the seed is taken modulo 2 to the 32nd, from 0 on. */
    private static void drawnAsDue(Clocks x, int seed, int n) {
        long[] s = {seed & 0xFFFFFFFFL};
        long[] offset = new long[n];
        long[] skew = new long[n];
        for (int r = 0; r < n; r++) {
            offset[r] = got(s) % 500;
            skew[r] = got(s) % 5;
        }
        List<Long> due = new ArrayList<>();
        int all = 0;
        for (int b = 0; b < 16; b++) {
            for (int r = 0; r < n; r++) {
                long a = got(s), bb = got(s), c = got(s);
                long t = offset[r] + 40 * (b + 1) + skew[r] * b + bb % 3 + (c % 9 == 0 ? 97 : 0);
                due.add(a % 4 == 0 ? NONE : t);
                all += a % 4 == 0 ? 0 : 1;
            }
        }
        due("draw(" + seed + ", " + n + ")", x.draw(seed, n), all);
        for (int i = 0; i < due.size(); i++) {
            due("seed " + seed + ", stamp(" + i / n + ", " + i % n + ")", x.stamp(i / n, i % n), due.get(i));
        }
        due("clocks", x.rule(0), n);
    }

    private static long got(long[] s) {
        s[0] = (s[0] * 1103515245L + 12345L) % 4294967296L;
        return s[0] / 65536 % 32768;
    }

    private static void promises23To24() {
        edge(23, "IMAGE k (0, 1): whether there was one (1, 0)", x -> {
            for (int k = 0; k < 2; k++) {
                due("the first, " + k, x.keep(k), 0);
                due("the second, " + k, x.keep(k), 1);
                due("count", x.count(0), k + 1);
            }
        });
        edge(23, "BAD", x -> {
            for (int k : new int[] {MIN, -1, 2, MAX}) {
                due("keep(" + k + ")", x.keep(k), BAD);
            }
            due("count(0)", x.count(0), 0);
        });
        edge(23, "is CLOCKS, all STAMPS, LIMIT, LEAST, as they were then", x -> {
            x.with(2, 9, 4).row(1, 3, 33);
            x.keep(0);
            x.hear(3, 1, 44);
            x.hear(4, 1, 55);
            x.set(2, 1);
            x.set(3, 2);
            due("back", x.back(0), 1);
            due("stamp(3, 1)", x.stamp(3, 1), 33);
            due("stamp(4, 1)", x.stamp(4, 1), NONE);
            due("LIMIT", x.rule(2), 9);
            due("LEAST", x.rule(3), 4);
        });
        edge(23, "in place of the one that was", x -> {
            x.hear(0, 0, 1);
            x.keep(0);
            x.hear(0, 0, 2);
            x.keep(0);
            x.hear(0, 0, 3);
            x.back(0);
            due("stamp", x.stamp(0, 0), 2);
        });
        edge(23, "each is its own", x -> {
            x.hear(0, 0, 1);
            x.keep(0);
            x.hear(0, 0, 2);
            x.keep(1);
            x.back(0);
            due("0", x.stamp(0, 0), 1);
            x.back(1);
            due("1", x.stamp(0, 0), 2);
        });
        edge(24, "BAD; STATE: there is none", x -> {
            for (int k : new int[] {MIN, -1, 2, MAX}) {
                due("back(" + k + ")", x.back(k), BAD);
            }
            due("back(0)", x.back(0), STATE);
            due("back(1)", x.back(1), STATE);
            x.keep(1);
            due("back(0)", x.back(0), STATE);
            due("back(1)", x.back(1), 0);
        });
        edge(24, "as many CLOCKS as then: fewer", x -> {
            x.with(2, 0, 2).tie(0, 1, 0);
            x.keep(0);
            x.draw(1, 7);
            due("back", x.back(0), 4);
            due("clocks", x.rule(0), 2);
            due("no CLOCK 2", x.stamp(0, 2), BAD);
            due("lines", x.rule(4), 2);
        });
        edge(24, "as many CLOCKS as then: more", x -> {
            x.draw(1, 7);
            int all = x.rule(1);
            int one = x.stamp(9, 6);
            x.keep(0);
            x.draw(2, 1);
            due("back", x.back(0), all);
            due("clocks", x.rule(0), 7);
            due("stamp", x.stamp(9, 6), one);
        });
        edge(24, "the IMAGE is there still, and is let be", x -> {
            x.hear(0, 0, 1);
            x.keep(0);
            x.back(0);
            x.hear(0, 0, 2);
            due("back", x.back(0), 1);
            due("stamp", x.stamp(0, 0), 1);
            due("count(0)", x.count(0), 1);
        });
        edge(24, "LINES are fitted anew", x -> {
            x.with(2, 0, 2).tie(0, 1, 0);
            x.keep(0);
            x.shift(1, 6);
            due("before", x.taken(0, 1, 0), 6 * 256);
            x.back(0);
            due("then", x.taken(0, 1, 0), 0);
        });
        edge(24, "all else stays", x -> {
            x.keep(0);
            x.tell("clocks 8");
            x.put("ab");
            x.cells(0, 1, 6, 7);
            x.taken(0, 0, 0);
            x.back(0);
            due("fault", x.fault(), 3);
            due("tape", x.count(1), 2);
            due("ok", x.ok(), 1);
            due("sheet", x.read(0, 1, 0, 0, 2), 2);
            due("cells", x.stamp(0, 0) * 10 + x.stamp(1, 0), 67);
        });
    }

    private static void promises25To28() {
        edge(25, "A SHEET is a new row of CELLS 0", x -> {
            x.cells(0, 1, 5, 6, 7);
            due("sheet", x.sheet(0, 1, 4), 1);
            due("read", x.read(0, 1, 0, 0, 4), 4);
            stampsAre(x, 0, 0, 0, 0);
        });
        edge(25, "a shorter one has no CELLS behind its last", x -> {
            x.cells(0, 1, 5, 6, 7);
            x.sheet(0, 1, 1);
            due("lay", x.lay(0, 1, 5), INDEX);
            due("read", x.read(0, 1, 0, 0, 2), INDEX);
            x.sheet(0, 1, 3);
            x.read(0, 1, 0, 0, 3);
            stampsAre(x, 0, 0, 0);
        });
        edge(25, "BAD: also n above 48; -14 (SIZE): n below 0", x -> {
            due("49", x.sheet(0, 0, 49), BAD);
            due("MAX", x.sheet(0, 0, MAX), BAD);
            due("-1", x.sheet(0, 0, -1), SIZE);
            due("MIN", x.sheet(0, 0, MIN), SIZE);
            due("nothing still", x.count(2), NONE);
            due("48", x.sheet(0, 0, 48), 1);
            due("0", x.sheet(0, 0, 0), 1);
        });
        edge(26, "its lowest bits; of LONGS v", x -> {
            x.cells(0, 0, 65536 + 77).cells(1, 1, 77).cells(2, 2, 77);
            for (int k = 0; k < 3; k++) {
                due("read " + k, x.read(k, k, 0, 0, 1), 1);
                due("it", x.stamp(0, 0), 77);
                x.lose(0, 0);
            }
            x.lay(1, 0, 65536 + 77);
            x.lay(2, 0, 65536 + 77);
            due("of INTS all", x.read(1, 1, 0, 0, 1), -20);
            due("of LONGS all", x.read(2, 2, 0, 0, 1), -20);
        });
        edge(26, "-10 less the FAULT: NULL, INDEX", x -> {
            due("NULL", x.lay(0, 0, 0), NULL);
            x.sheet(0, 0, 3);
            for (int i : new int[] {MIN, -1, 3, 48, MAX}) {
                due("lay(0, " + i + ", 0)", x.lay(0, i, 0), INDEX);
            }
            due("the first", x.lay(0, 0, 0), 1);
            due("the last", x.lay(0, 2, 0), 1);
        });
        edge(26, "CELL i alone", x -> {
            x.cells(0, 0, 1, 2, 3);
            x.lay(0, 1, 9);
            x.read(0, 0, 0, 0, 3);
            stampsAre(x, 1, 9, 3);
        });
        edge(27, "n (0 to 16) CELLS: none, whatever the SHEET and f are", x -> {
            x.hear(0, 0, 5);
            due("of nothing", x.read(0, 0, 0, 0, 0), 0);
            due("of nothing, f below", x.read(0, 1, MIN, 0, 0), 0);
            x.cells(0, 1, 10000);
            due("of another lane", x.read(0, 0, 0, 0, 0), 0);
            due("of another lane", x.read(0, 2, MAX, 0, 0), 0);
            due("f below", x.read(0, 1, -1, 0, 0), 0);
            due("f behind", x.read(0, 1, 2, 0, 0), 0);
            due("one that is too great", x.read(0, 1, 0, 0, 0), 0);
            due("the STAMP is let be", x.stamp(0, 0), 5);
        });
        edge(27, "n (0 to 16) CELLS: one, sixteen", x -> {
            x.sheet(0, 0, 16);
            for (int i = 0; i < 16; i++) {
                x.lay(0, i, 100 + i);
            }
            due("16", x.read(0, 0, 0, 0, 16), 16);
            due("the first", x.stamp(0, 0), 100);
            due("the last", x.stamp(15, 0), 115);
            due("1", x.read(0, 0, 15, 0, 1), 1);
            due("the first", x.stamp(0, 0), 115);
            due("the second stays", x.stamp(1, 0), 101);
        });
        edge(27, "BAD: k, lane, r, n, though n is 0", x -> {
            due("n below 0 of nothing", x.read(0, 0, 0, 0, -1), BAD);
            due("n above 16 of nothing", x.read(0, 0, 0, 0, 17), BAD);
            x.sheet(0, 0, 20);
            due("n below 0 of another lane", x.read(0, 1, 0, 0, -1), BAD);
            int[][] wrong = {{-1, 0, 0, 0, 0}, {4, 0, 0, 0, 0}, {0, -1, 0, 0, 0}, {0, 3, 0, 0, 0},
                {0, 0, 0, -1, 0}, {0, 0, 0, 1, 0}, {0, 0, 0, 0, -1}, {0, 0, 0, 0, 17}, {0, 0, 0, 0, MIN},
                {0, 0, 0, 0, MAX}, {MIN, 0, 0, 0, 1}, {MAX, 0, 0, 0, 1}, {0, 0, 0, MIN, 1}, {0, 0, 0, MAX, 1}};
            for (int[] w : wrong) {
                due("read" + Arrays.toString(w), x.read(w[0], w[1], w[2], w[3], w[4]), BAD);
            }
            due("stamps", x.rule(1), 0);
        });
        edge(27, "from CELL f on: INDEX", x -> {
            x.sheet(0, 0, 48);
            due("the last sixteen", x.read(0, 0, 32, 0, 16), 16);
            due("one too far", x.read(0, 0, 33, 0, 16), INDEX);
            due("fifteen", x.read(0, 0, 33, 0, 15), 15);
            due("the last", x.read(0, 0, 47, 0, 1), 1);
            due("behind it", x.read(0, 0, 48, 0, 1), INDEX);
            due("ahead", x.read(0, 0, -1, 0, 1), INDEX);
            due("ahead, though others are in", x.read(0, 0, -1, 0, 16), INDEX);
            due("MIN", x.read(0, 0, MIN, 0, 16), INDEX);
            due("MAX: f and i wrap around", x.read(0, 0, MAX, 0, 16), INDEX);
            due("MAX - 14", x.read(0, 0, MAX - 14, 0, 16), INDEX);
        });
        edge(27, "one below 0: it is lost", x -> {
            x.row(0, 0, 7, 7, 7, 7).cells(0, 1, -1, 5, MIN);
            due("read", x.read(0, 1, 0, 0, 3), 3);
            stampsAre(x, NONE, 5, NONE, 7);
            due("stamps", x.clock(0, 0), 2);
        });
        edge(27, "-20 less i (from 0 on): the i-th is above 9999", x -> {
            x.sheet(0, 1, 17);
            for (int i = 0; i < 16; i++) {
                x.lay(0, i, 10000);
                due("the " + i + "th", x.read(0, 1, 0, 0, 16), -20 - i);
                x.lay(0, i, 9999);
            }
            due("9999 is none", x.read(0, 1, 0, 0, 16), 16);
            x.lay(0, 16, 10000);
            due("i is not from CELL 0 on", x.read(0, 1, 1, 0, 16), -35);
            due("one that is not read", x.read(0, 1, 0, 0, 16), 16);
        });
        edge(27, "the first that is met: then nothing is changed", x -> {
            x.row(0, 0, 7, 7, 7).cells(0, 1, 1, -1, 10000, 20000);
            due("the first of two", x.read(0, 1, 0, 0, 4), -22);
            stampsAre(x, 7, 7, 7);
            due("above 9999 ahead of INDEX", x.read(0, 1, 3, 0, 2), -20);
            due("above 9999 ahead of INDEX", x.read(0, 1, 0, 0, 5), -22);
            x.lay(0, 2, 3);
            x.lay(0, 3, 4);
            due("INDEX behind good ones", x.read(0, 1, 0, 0, 5), INDEX);
            stampsAre(x, 7, 7, 7);
        });
        edge(27, "of CLOCK r alone, its LINES are fitted anew", x -> {
            x.with(2, 0, 2).tie(0, 1, 0).cells(0, 1, 5, 6);
            due("before", x.taken(0, 1, 0), 0);
            due("read", x.read(0, 1, 0, 1, 2), 2);
            due("stamp(0, 0)", x.stamp(0, 0), 0);
            due("then", x.taken(0, 1, 0), 5 * 256);
            due("back", x.taken(1, 0, 0), -5 * 256);
        });
        edge(27, "CELLS are taken, not tied", x -> {
            x.cells(0, 1, 5);
            x.read(0, 1, 0, 0, 1);
            x.lay(0, 0, 6);
            due("the STAMP stays", x.stamp(0, 0), 5);
            x.hear(0, 0, 7);
            x.read(0, 1, 0, 0, 1);
            due("the CELL stays", x.stamp(0, 0), 6);
        });
        edge(28, "0 IMAGES", x -> {
            due("none", x.count(0), 0);
            x.keep(1);
            due("one", x.count(0), 1);
            x.keep(0);
            due("two", x.count(0), 2);
        });
        edge(28, "1 bytes on THE TAPE", x -> {
            due("none", x.count(1), 0);
            x.put("abc");
            due("three", x.count(1), 3);
            x.end(1);
            due("one", x.count(1), 1);
            x.text();
            due("none", x.count(1), 0);
        });
        edge(28, "2 CELLS of SHEET 0 (NONE: nothing)", x -> {
            x.sheet(1, 0, 5);
            due("nothing", x.count(2), NONE);
            x.sheet(0, 0, 0);
            due("0", x.count(2), 0);
            x.sheet(0, 2, 48);
            due("48", x.count(2), 48);
        });
        edge(28, "BAD", x -> {
            for (int what : new int[] {MIN, -1, 3, MAX}) {
                due("count(" + what + ")", x.count(what), BAD);
            }
        });
    }

    // ---- what is refused changes nothing

    /** Each refused call beside a twin that did not make it: all that can be asked then is the same. */
    private static final class Refused {
        private static final List<String> NAMES = new ArrayList<>();
        private static final List<Function> CALLS = new ArrayList<>();
        private static final List<Long> DUE = new ArrayList<>();

        private interface Function {
            long of(Clocks x);
        }

        private static void call(String name, long due, Function call) {
            NAMES.add(name);
            CALLS.add(call);
            DUE.add(due);
        }

        static void changesNothing() {
            theCalls();
            for (int i = 0; i < NAMES.size(); i++) {
                boolean tells = NAMES.get(i).startsWith("taken") || NAMES.get(i).startsWith("there");
                for (int okBefore = 0; okBefore < (tells ? 1 : 2); okBefore++) {
                    for (int part = 0; part < 5; part++) {
                        compare(i, okBefore, part);
                    }
                }
            }
        }

        private static void compare(int i, int okBefore, int part) {
            edge(0, "what is refused changes nothing: " + NAMES.get(i) + ", asked by part " + part, x -> {
                prepare(x, okBefore);
                due(NAMES.get(i), CALLS.get(i).of(x), DUE.get(i));
                Clocks twin = new Clocks();
                prepare(twin, okBefore);
                List<Long> got = ask(x, part);
                List<Long> want = ask(twin, part);
                for (int a = 0; a < want.size(); a++) {
                    due("the " + a + "th answer then", got.get(a), want.get(a));
                }
            });
        }

        /** Something of all: CLOCKS of which 3 heard nothing, an IMAGE, SHEETS of each lane, bytes, a FAULT. */
        private static void prepare(Clocks x, int ok) {
            x.tell("clocks 3;hear 1 2 34;limit 5;least 4;");
            x.keep(1);
            x.tell("clocks 8");
            x.draw(3, 4);
            for (int b = 0; b < 16; b++) {
                x.lose(b, 3);
                x.lose(b, 1);
            }
            x.row(0, 0, 5, 100, 200, 300, 400, 500).row(1, 0, 7, 107, 207, 307, 440, 507);
            x.set(2, 9);
            x.cells(0, 0, 11, 12, 13).cells(1, 1, 21, -1, 10000).cells(2, 2, 10000, 32);
            x.put("clocks 3;hear 1 2 35");
            x.taken(0, 1 - ok, ok == 1 ? 7 : HIGH);
        }

        private static List<Long> ask(Clocks x, int part) {
            List<Long> told = new ArrayList<>();
            switch (part) {
                case 0: askState(x, told); break;
                case 1: askLines(x, told); break;
                case 2: askSheets(x, told); break;
                case 3: askImages(x, told); break;
                default: askTape(x, told); break;
            }
            return told;
        }

        private static void askState(Clocks x, List<Long> told) {
            told.add((long) x.ok());
            told.add((long) x.fault());
            for (int what = 0; what < 3; what++) {
                told.add((long) x.count(what));
            }
            askStamps(x, told);
        }

        private static void askStamps(Clocks x, List<Long> told) {
            for (int what = 0; what < 9; what++) {
                told.add((long) x.rule(what));
            }
            for (int r = 0; r < 4; r++) {
                for (int b = 0; b < 16; b++) {
                    told.add((long) x.stamp(b, r));
                }
            }
        }

        private static void askLines(Clocks x, List<Long> told) {
            for (int r = 0; r < 4; r++) {
                for (int s = 0; s < 4; s++) {
                    for (int what = 0; what < 5; what++) {
                        told.add((long) x.line(r, s, what));
                    }
                    told.add(x.sum(r, s, 5));
                    told.add((long) x.struck(r, s, 0));
                    told.add(x.far(r, s, 4));
                    told.add((long) x.cost(r, s));
                    told.add(x.taken(r, s, 1000));
                }
            }
        }

        private static void askSheets(Clocks x, List<Long> told) {
            for (int k = 0; k < 4; k++) {
                for (int i = 0; i < 4; i++) {
                    for (int lane = 0; lane < 3; lane++) {
                        told.add((long) x.read(k, lane, i, 0, 1));
                    }
                    told.add((long) x.stamp(0, 0));
                }
            }
        }

        private static void askImages(Clocks x, List<Long> told) {
            told.add((long) x.back(0));
            told.add((long) x.back(1));
            askStamps(x, told);
            told.add((long) x.keep(0));
            told.add((long) x.keep(1));
        }

        private static void askTape(Clocks x, List<Long> told) {
            told.add((long) x.feed(';'));
            told.add((long) x.text());
            told.add((long) x.fault());
            askStamps(x, told);
        }

        private static void theCalls() {
            theTextAndTheQuestions();
            theTimesAndTheHand();
            theImagesAndTheSheets();
        }

        private static void theTextAndTheQuestions() {
            call("feed(-1)", BAD, x -> x.feed(-1));
            call("feed(128)", BAD, x -> x.feed(128));
            call("end(-1)", BAD, x -> x.end(-1));
            call("end(21)", BAD, x -> x.end(21));
            call("rule(9)", BAD, x -> x.rule(9));
            call("stamp(16, 0)", BAD, x -> x.stamp(16, 0));
            call("stamp(0, 4)", BAD, x -> x.stamp(0, 4));
            call("stamp(0, 3)", NONE, x -> x.stamp(0, 3));
            call("clock(4, 0)", BAD, x -> x.clock(4, 0));
            call("clock(0, 4)", BAD, x -> x.clock(0, 4));
            call("line(0, 0, 0)", BAD, x -> x.line(0, 0, 0));
            call("line(0, 4, 0)", BAD, x -> x.line(0, 4, 0));
            call("line(0, 3, 4)", NONE, x -> x.line(0, 3, 4));
            call("sum(0, 1, 6)", BAD, x -> x.sum(0, 1, 6));
            call("sum(0, 3, 0)", NONE, x -> x.sum(0, 3, 0));
            call("struck(0, 1, -1)", BAD, x -> x.struck(0, 1, -1));
            call("struck(0, 1, 16)", NONE, x -> x.struck(0, 1, 16));
            call("far(0, 1, 16)", BAD, x -> x.far(0, 1, 16));
            call("far(0, 3, 0)", NONE, x -> x.far(0, 3, 0));
            call("cost(0, 4)", BAD, x -> x.cost(0, 4));
            call("cost(0, 3)", NONE, x -> x.cost(0, 3));
            call("chain(0, 1, -1)", BAD, x -> x.chain(0, 1, -1));
            call("chain(0, 3, 0)", NONE, x -> x.chain(0, 3, 0));
            call("count(3)", BAD, x -> x.count(3));
        }

        private static void theTimesAndTheHand() {
            call("taken(0, 4, 1)", BAD, x -> x.taken(0, 4, 1));
            call("taken(0, 3, 1)", STATE, x -> x.taken(0, 3, 1));
            call("taken(0, 1, HIGH)", FULL, x -> x.taken(0, 1, HIGH));
            call("there(0, 4, 1)", BAD, x -> x.there(0, 4, 1));
            call("there(0, 3, 1)", STATE, x -> x.there(0, 3, 1));
            call("there(0, 1, HIGH)", FULL, x -> x.there(0, 1, HIGH));
            call("hear(16, 0, 0)", BAD, x -> x.hear(16, 0, 0));
            call("hear(-1, 1, 0)", BAD, x -> x.hear(-1, 1, 0));
            call("hear(0, 4, 0)", BAD, x -> x.hear(0, 4, 0));
            call("hear(0, 0, -1)", BAD, x -> x.hear(0, 0, -1));
            call("hear(0, 0, 10000)", BAD, x -> x.hear(0, 0, 10000));
            call("lose(16, 0)", BAD, x -> x.lose(16, 0));
            call("lose(0, 4)", BAD, x -> x.lose(0, 4));
            call("lose(0, 3)", NONE, x -> x.lose(0, 3));
            call("shift(4, 0)", BAD, x -> x.shift(4, 0));
            call("shift(0, 10000)", BAD, x -> x.shift(0, 10000));
            call("shift(0, -6)", STATE, x -> x.shift(0, -6));
            call("shift(0, 9500)", STATE, x -> x.shift(0, 9500));
            call("set(1, 3)", BAD, x -> x.set(1, 3));
            call("set(2, 100)", BAD, x -> x.set(2, 100));
            call("set(3, 7)", BAD, x -> x.set(3, 7));
            call("set(4, 3)", BAD, x -> x.set(4, 3));
            call("draw(1, 0)", BAD, x -> x.draw(1, 0));
            call("draw(1, 8)", BAD, x -> x.draw(1, 8));
        }

        private static void theImagesAndTheSheets() {
            call("keep(-1)", BAD, x -> x.keep(-1));
            call("keep(2)", BAD, x -> x.keep(2));
            call("back(2)", BAD, x -> x.back(2));
            call("back(0)", STATE, x -> x.back(0));
            call("sheet(4, 0, 1)", BAD, x -> x.sheet(4, 0, 1));
            call("sheet(0, 3, 1)", BAD, x -> x.sheet(0, 3, 1));
            call("sheet(0, 0, 49)", BAD, x -> x.sheet(0, 0, 49));
            call("sheet(1, 1, -1)", SIZE, x -> x.sheet(1, 1, -1));
            call("lay(4, 0, 1)", BAD, x -> x.lay(4, 0, 1));
            call("lay(3, 0, 1)", NULL, x -> x.lay(3, 0, 1));
            call("lay(0, 3, 1)", INDEX, x -> x.lay(0, 3, 1));
            call("lay(0, -1, 1)", INDEX, x -> x.lay(0, -1, 1));
            call("read(4, 0, 0, 0, 1)", BAD, x -> x.read(4, 0, 0, 0, 1));
            call("read(0, 3, 0, 0, 1)", BAD, x -> x.read(0, 3, 0, 0, 1));
            call("read(0, 0, 0, 4, 1)", BAD, x -> x.read(0, 0, 0, 4, 1));
            call("read(0, 0, 0, 0, 17)", BAD, x -> x.read(0, 0, 0, 0, 17));
            call("read(3, 0, 0, 0, 1)", NULL, x -> x.read(3, 0, 0, 0, 1));
            call("read(0, 1, 0, 0, 1)", CAST, x -> x.read(0, 1, 0, 0, 1));
            call("read(0, 0, 1, 0, 3)", INDEX, x -> x.read(0, 0, 1, 0, 3));
            call("read(1, 1, 0, 0, 3)", -22, x -> x.read(1, 1, 0, 0, 3));
            call("read(2, 2, 0, 0, 2)", -20, x -> x.read(2, 2, 0, 0, 2));
        }
    }
}
