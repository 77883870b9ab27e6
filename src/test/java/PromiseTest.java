import java.util.function.Consumer;

/** Each of the promises 1 to 28 by hand: ordinary inputs, the edges the document names, wrong inputs. */
public final class PromiseTest {
    private static final int BAD = -1, STATE = -2, FULL = -3, NONE = -4;
    private static final int MIN = Integer.MIN_VALUE, MAX = Integer.MAX_VALUE;
    private static int passed;
    private static int failed;

    private static void due(String call, long got, long want) {
        if (got == want) {
            passed++;
        } else {
            failed++;
            System.out.println(call + " answered " + got + ", due is " + want);
        }
    }

    private static void promise(int number, Consumer<BeaconLines> test) {
        int before = failed;
        test.accept(new BeaconLines());
        if (failed > before) {
            System.out.println("promise " + number + ": " + (failed - before) + " wrong");
        }
    }

    private static int tell(BeaconLines x, String text) {
        for (int i = 0; i < text.length(); i++) {
            due("feed into '" + text + "'", x.feed(text.charAt(i)), i + 1);
        }
        return x.text();
    }

    private static void wrongText(BeaconLines x, String text, int fault, int place) {
        due("'" + text + "'", tell(x, text), -10 - place);
        due("fault of '" + text + "'", x.fault(), fault);
        due("the tape after '" + text + "'", x.count(1), 0);
    }

    private static void goodText(BeaconLines x, String text, int stamps) {
        due("'" + text + "'", tell(x, text), stamps);
        due("fault of '" + text + "'", x.fault(), 0);
        due("the tape after '" + text + "'", x.count(1), 0);
    }

    /** The stamps of one clock of beacons 0 on; those below 0 are not heard. */
    private static void hearAll(BeaconLines x, int r, int... stamps) {
        for (int b = 0; b < stamps.length; b++) {
            if (stamps[b] >= 0) {
                x.hear(b, r, stamps[b]);
            }
        }
    }

    private static void clocks(BeaconLines x, int n) {
        due("clocks " + n, tell(x, "clocks " + n + ";"), 0);
    }

    public static void main(String[] args) {
        promise(1, PromiseTest::aNewObject);
        promise(2, PromiseTest::feed);
        promise(3, PromiseTest::end);
        promise(4, PromiseTest::text);
        promise(5, PromiseTest::fault);
        promise(6, PromiseTest::rule);
        promise(7, PromiseTest::stamp);
        promise(8, PromiseTest::clock);
        promise(9, PromiseTest::line);
        promise(10, PromiseTest::sum);
        promise(11, PromiseTest::struck);
        promise(12, PromiseTest::far);
        promise(13, PromiseTest::cost);
        promise(14, PromiseTest::chain);
        promise(15, PromiseTest::taken);
        promise(16, PromiseTest::ok);
        promise(17, PromiseTest::there);
        promise(18, PromiseTest::hear);
        promise(19, PromiseTest::lose);
        promise(20, PromiseTest::shift);
        promise(21, PromiseTest::set);
        promise(22, PromiseTest::draw);
        promise(23, PromiseTest::keep);
        promise(24, PromiseTest::back);
        promise(25, PromiseTest::sheet);
        promise(26, PromiseTest::lay);
        promise(27, PromiseTest::read);
        promise(28, PromiseTest::count);
        System.out.println("promises: " + passed + " answers as due, " + failed + " not");
        if (failed > 0) {
            System.exit(1);
        }
    }

    private static void aNewObject(BeaconLines x) {
        due("BAD", BeaconLines.BAD, -1);
        due("STATE", BeaconLines.STATE, -2);
        due("FULL", BeaconLines.FULL, -3);
        due("NONE", BeaconLines.NONE, -4);
        int[] rules = {1, 0, 2, 3, 0, 0, 0, 0, 16};
        for (int what = 0; what < rules.length; what++) {
            due("rule(" + what + ")", x.rule(what), rules[what]);
        }
        for (int b = 0; b < 16; b++) {
            due("stamp of " + b, x.stamp(b, 0), NONE);
        }
        due("no second clock", x.stamp(0, 1), BAD);
        due("fault", x.fault(), 0);
        due("ok", x.ok(), 0);
        due("images", x.count(0), 0);
        due("bytes", x.count(1), 0);
        due("cells", x.count(2), NONE);
        for (int k = 0; k < 4; k++) {
            due("sheet " + k, x.lay(k, 0, 0), -11);
        }
        for (int k = 0; k < 2; k++) {
            due("image " + k, x.back(k), STATE);
        }
    }

    private static void feed(BeaconLines x) {
        due("feed(-1)", x.feed(-1), BAD);
        due("feed(128)", x.feed(128), BAD);
        due("feed(MIN)", x.feed(MIN), BAD);
        due("feed(MAX)", x.feed(MAX), BAD);
        due("nothing was fed", x.count(1), 0);
        for (int i = 0; i < 300; i++) {
            due("feed " + i, x.feed(i % 128), i + 1);
        }
        due("BAD comes before FULL", x.feed(128), BAD);
        due("one more", x.feed(0), FULL);
        due("still 300", x.count(1), 300);
        due("end(299)", x.end(299), 300);
        due("room again", x.feed(127), 300);
        due("full again", x.feed(127), FULL);
    }

    private static void end(BeaconLines x) {
        due("end(0) of nothing", x.end(0), 0);
        due("end(1) of nothing", x.end(1), BAD);
        for (char c : "clocks 2;zz".toCharArray()) {
            x.feed(c);
        }
        due("end(-1)", x.end(-1), BAD);
        due("end(MIN)", x.end(MIN), BAD);
        due("end(12)", x.end(12), BAD);
        due("end(11)", x.end(11), 11);
        due("end(9)", x.end(9), 11);
        due("what was cut can not come back", x.end(10), BAD);
        due("count", x.count(1), 9);
        due("text", x.text(), 0);
        due("clocks", x.rule(0), 2);
    }

    private static void text(BeaconLines x) {
        goodText(x, "clocks 3;hear 0 0 0;hear 15 2 9999;limit 99;least 6;", 2);
        due("clocks", x.rule(0), 3);
        due("stamp(0, 0)", x.stamp(0, 0), 0);
        due("stamp(15, 2)", x.stamp(15, 2), 9999);
        due("limit", x.rule(2), 99);
        due("least", x.rule(3), 6);
        goodText(x, "  clocks2;hear1 1 0007;  limit0 ;  ", 1);
        due("in place of what there was", x.rule(1), 1);
        due("stamp(1, 1)", x.stamp(1, 1), 7);
        due("limit told", x.rule(2), 0);
        due("least not told stays", x.rule(3), 6);
        goodText(x, "clocks 7;", 0);
        goodText(x, "clocks 1 ; least 2;limit 5;", 0);
        due("least before limit", x.rule(2) * 10 + x.rule(3), 52);
        hearAll(x, 0, 0, 5, 10);
        goodText(x, "clocks 2;hear 0 0 1;hear 1 0 2;hear 0 1 1;hear 1 1 2;", 4);
        due("a good line", x.line(0, 1, 0), 2);
        goodText(x, "clocks 2;", 0);
        due("no line any more", x.line(0, 1, 0), 0);
        textKeepsByAFault(x);
        textDropsImages(x);
        due("an empty tape", x.text(), -10);
        due("its fault", x.fault(), 2);
        aFullTape();
    }

    private static void aFullTape() {
        wrongText(new BeaconLines(), " ".repeat(300), 2, 300);
        wrongText(new BeaconLines(), "a".repeat(300), 2, 0);
        wrongText(new BeaconLines(), "0".repeat(300), 1, 0);
        goodText(new BeaconLines(), " ".repeat(291) + "clocks 7;", 0);
        StringBuilder text = new StringBuilder("clocks7;");
        for (int i = 0; i < 24; i++) {
            text.append("hear").append(i % 16).append(' ').append(i / 16).append(" 42;");
        }
        goodText(new BeaconLines(), text.toString(), 24);
    }

    private static void textKeepsByAFault(BeaconLines x) {
        goodText(x, "clocks 2;hear 3 1 44;limit 7;least 4;", 1);
        x.keep(0);
        wrongText(x, "clocks 4;hear 3 1 55;limit 8;least 5;hear 1 1 1", 2, 47);
        due("clocks", x.rule(0), 2);
        due("stamp", x.stamp(3, 1), 44);
        due("limit", x.rule(2), 7);
        due("least", x.rule(3), 4);
        due("images", x.count(0), 1);
        goodText(x, "clocks 1;", 0);
        due("what a fault had told is not left over", x.rule(2) * 10 + x.rule(3), 74);
    }

    private static void textDropsImages(BeaconLines x) {
        x.keep(0);
        x.keep(1);
        x.sheet(0, 1, 5);
        x.taken(0, 0, 1);
        goodText(x, "clocks 2;", 0);
        due("images are gone", x.count(0), 0);
        due("back(0)", x.back(0), STATE);
        due("back(1)", x.back(1), STATE);
        due("sheets stay", x.count(2), 5);
        due("what ok() tells stays", x.ok(), 1);
    }

    private static void fault(BeaconLines x) {
        wrongText(new BeaconLines(), "Clocks 1;", 1, 0);
        wrongText(new BeaconLines(), " .", 1, 1);
        wrongText(new BeaconLines(), "clocks 1;hear 0 0 1.5;", 1, 19);
        wrongText(new BeaconLines(), "clocks\t1;", 1, 6);
        wrongText(new BeaconLines(), "clocks 12345;", 1, 7);
        wrongText(new BeaconLines(), "clocks 00001;", 1, 7);
        wrongText(new BeaconLines(), "clocks 1;limit 00002;", 1, 15);
        wrongText(new BeaconLines(), "clocks 1;;", 2, 9);
        wrongText(new BeaconLines(), "clocks 1;12345", 1, 9);
        wrongText(new BeaconLines(), "clocks 1;1234", 2, 9);
        wrongText(new BeaconLines(), "clocks", 2, 6);
        wrongText(new BeaconLines(), "clocks  ", 2, 8);
        wrongText(new BeaconLines(), "clocks;", 2, 6);
        wrongText(new BeaconLines(), "clocks clocks 1;", 2, 7);
        wrongText(new BeaconLines(), "clocks 1", 2, 8);
        wrongText(new BeaconLines(), "clocks 1 2;", 2, 9);
        wrongText(new BeaconLines(), "clocks 1 hear", 2, 9);
        wrongText(new BeaconLines(), "clock 1;", 2, 0);
        wrongText(new BeaconLines(), "clockss 1;", 2, 0);
        wrongText(new BeaconLines(), "1", 2, 0);
        wrongText(new BeaconLines(), ";", 2, 0);
        wrongText(new BeaconLines(), "clocks 1;clocks 1;", 2, 9);
        wrongText(new BeaconLines(), "clocks 1;hears 0 0 0;", 2, 9);
        wrongText(new BeaconLines(), "clocks 1;hea", 2, 9);
        wrongText(new BeaconLines(), "clocks 1;hearlimit 0;", 2, 9);
        wrongText(new BeaconLines(), "clocks 1;hear 0 0;", 2, 17);
        wrongText(new BeaconLines(), "clocks 1;hear 0 0 0 0;", 2, 20);
        wrongText(new BeaconLines(), "clocks 1;hear 0 0 0 ", 2, 20);
        wrongText(new BeaconLines(), "clocks 1;limit;", 2, 14);
        wrongText(new BeaconLines(), "clocks 1;least x", 2, 15);
        wrongText(new BeaconLines(), "clocks 0;", 3, 7);
        wrongText(new BeaconLines(), "clocks 8;", 3, 7);
        wrongText(new BeaconLines(), "clocks 9999?", 3, 7);
        wrongText(new BeaconLines(), "clocks 2;hear 16 0 0;", 3, 14);
        wrongText(new BeaconLines(), "clocks 2;hear 15 2 0;", 3, 17);
        wrongText(new BeaconLines(), "clocks 2;limit 100;", 3, 15);
        wrongText(new BeaconLines(), "clocks 2;least 1;", 3, 15);
        wrongText(new BeaconLines(), "clocks 2;least 7;", 3, 15);
        wrongText(new BeaconLines(), "clocks 2;hear 1 1 5;hear 1 1 5;", 4, 27);
        wrongText(new BeaconLines(), "clocks 2;hear 1 1 0;hear 1 1", 4, 27);
        wrongText(new BeaconLines(), "clocks 2;hear 1 1 5;hear 1 1?", 4, 27);
        wrongText(new BeaconLines(), "clocks 2;limit 2;limit", 4, 17);
        wrongText(new BeaconLines(), "clocks 2;least 2;limit 4;  least ?", 4, 27);
        wrongText(x, "clocks 2;hear 1 1 5;hear 1 2 5;", 3, 27);
        due("the latest fault stays", x.fault(), 3);
        x.feed('c');
        x.end(0);
        due("and stays", x.fault(), 3);
        goodText(x, "clocks 2;hear 1 1 5;hear 1 0 5;hear 2 1 5;limit 3;least 3;", 3);
    }

    private static void rule(BeaconLines x) {
        due("rule(-1)", x.rule(-1), BAD);
        due("rule(9)", x.rule(9), BAD);
        due("rule(MIN)", x.rule(MIN), BAD);
        due("rule(MAX)", x.rule(MAX), BAD);
        clocks(x, 3);
        hearAll(x, 0, 0, 100, 200, 300, 400);
        hearAll(x, 1, 10, 110, 290, 310, 410);
        hearAll(x, 2, 5, 5, 5, 5, 5);
        // 0 to 1 and 1 to 0 lose beacon 2 and are exact then; to 2 all is level; from 2 there is none.
        int[] rules = {3, 15, 2, 3, 4, 0, 4, 2, 11};
        for (int what = 0; what < rules.length; what++) {
            due("rule(" + what + ")", x.rule(what), rules[what]);
        }
        x.set(3, 5);
        due("poor ones", x.rule(5), 2);
        due("good ones", x.rule(4), 2);
        due("nothing struck", x.rule(7), 0);
        due("reach", x.rule(6), 2);
        // 2 is told by 0 and 1 alone, and tells nobody.
        x.lose(0, 1);
        due("good ones", x.rule(4), 1);
        due("poor ones", x.rule(5), 0);
        due("stamps", x.rule(1), 14);
        x.lose(0, 0);
        x.lose(0, 2);
        due("nobody heard beacon 0 any more", x.rule(8), 12);
    }

    private static void stamp(BeaconLines x) {
        goodText(x, "clocks 2;hear 0 0 0;hear 15 1 9999;", 2);
        due("stamp(0, 0)", x.stamp(0, 0), 0);
        due("stamp(15, 1)", x.stamp(15, 1), 9999);
        due("stamp(0, 1)", x.stamp(0, 1), NONE);
        due("stamp(15, 0)", x.stamp(15, 0), NONE);
        int[][] wrong = {{-1, 0}, {16, 0}, {0, -1}, {0, 2}, {MIN, 0}, {MAX, 0}, {0, MIN}, {0, MAX}};
        for (int[] w : wrong) {
            due("stamp(" + w[0] + ", " + w[1] + ")", x.stamp(w[0], w[1]), BAD);
        }
    }

    private static void clock(BeaconLines x) {
        clocks(x, 4);
        hearAll(x, 0, 0, 10, 20);
        hearAll(x, 1, 0, 10, 20, 30, 40, 50);
        hearAll(x, 2, -1, -1, -1, 5, 6, 7);
        hearAll(x, 3, 1, 1, 1);
        int[][] due = {{3, 2, 1, 4}, {6, 3, 2, 4}, {3, 1, 1, 4}, {3, 0, 2, 1}};
        for (int r = 0; r < 4; r++) {
            for (int what = 0; what < 4; what++) {
                due("clock(" + r + ", " + what + ")", x.clock(r, what), due[r][what]);
            }
            due("clock(" + r + ", 4)", x.clock(r, 4), BAD);
            due("clock(" + r + ", -1)", x.clock(r, -1), BAD);
        }
        due("clock(4, 0)", x.clock(4, 0), BAD);
        due("clock(-1, 3)", x.clock(-1, 3), BAD);
        due("clock(MIN, MIN)", x.clock(MIN, MIN), BAD);
        due("clock(MAX, 0)", x.clock(MAX, 0), BAD);
    }

    private static void line(BeaconLines x) {
        clocks(x, 3);
        hearAll(x, 0, 0, 100, 200, 300, 400);
        hearAll(x, 1, 10, 111, 290, 310, 410);
        lineAsDue(x, 0, 1, 2, 4, 1, 1, 168);
        x.set(2, 0);
        lineAsDue(x, 0, 1, 2, 3, 2, 0, 1);
        x.set(3, 4);
        lineAsDue(x, 0, 1, 1, 4, 1, 1, NONE);
        x.set(2, 99);
        lineAsDue(x, 0, 1, 2, 5, 0, 2, 16334);
        lineAsDue(x, 0, 2, 0, 0, 0, NONE, NONE);
        lineAsDue(x, 2, 0, 0, 0, 0, NONE, NONE);
        hearAll(x, 2, 4, 4, 4, 4, 4);
        lineAsDue(x, 0, 2, 2, 5, 0, 0, 1);
        lineAsDue(x, 2, 0, 0, 0, 0, NONE, NONE);
        int[][] wrong = {{0, 0, 0}, {2, 2, 4}, {-1, 0, 0}, {0, -1, 0}, {3, 0, 0}, {0, 3, 0},
            {0, 1, -1}, {0, 1, 5}, {MAX, MIN, 0}, {0, 1, MAX}, {0, 2, 5}};
        for (int[] w : wrong) {
            due("line(" + w[0] + ", " + w[1] + ", " + w[2] + ")", x.line(w[0], w[1], w[2]), BAD);
        }
        limitIsMetExactly(x);
    }

    private static void lineAsDue(BeaconLines x, int r, int s, int... due) {
        for (int what = 0; what < due.length; what++) {
            due("line(" + r + ", " + s + ", " + what + ")", x.line(r, s, what), due[what]);
        }
    }

    /** Of 0, 3, 0 by 0, 1, 2 the line is level at 1, so that 1 is 2 from it: LIMIT 2 holds, 1 does not. */
    private static void limitIsMetExactly(BeaconLines x) {
        clocks(x, 2);
        hearAll(x, 0, 0, 1, 2);
        hearAll(x, 1, 0, 3, 0);
        x.set(2, 2);
        x.set(3, 3);
        lineAsDue(x, 0, 1, 2, 3, 0, 1, 513);
        x.set(2, 1);
        lineAsDue(x, 0, 1, 1, 3, 0, 1, NONE);
        x.set(3, 2);
        lineAsDue(x, 0, 1, 2, 2, 1, 0, 1);
    }

    private static void sum(BeaconLines x) {
        clocks(x, 3);
        hearAll(x, 0, 0, 1, 2, 3);
        hearAll(x, 1, 0, 3, 0, -1);
        long[] sums = {3, 3, 3, 6, 0, 36};
        for (int what = 0; what < 6; what++) {
            due("sum(0, 1, " + what + ")", x.sum(0, 1, what), sums[what]);
            due("sum(0, 2, " + what + ")", x.sum(0, 2, what), NONE);
        }
        due("sum(0, 1, 6)", x.sum(0, 1, 6), BAD);
        due("sum(0, 2, 6)", x.sum(0, 2, 6), BAD);
        due("sum(0, 1, -1)", x.sum(0, 1, -1), BAD);
        due("sum(1, 1, 0)", x.sum(1, 1, 0), BAD);
        due("sum(3, 1, 0)", x.sum(3, 1, 0), BAD);
        due("sum(1, 3, 0)", x.sum(1, 3, 0), BAD);
        due("sum(-1, 1, 0)", x.sum(-1, 1, 0), BAD);
        due("sum(1, MIN, MAX)", x.sum(1, MIN, MAX), BAD);
        clocks(x, 2);
        x.set(2, 0);
        for (int b = 0; b < 16; b++) {
            x.hear(b, 0, b % 2 * 9999);
            x.hear(b, 1, b % 2 * 9999);
        }
        long[] large = {16, 79992, 79992, 6398720064L, 6398720064L, 0};
        for (int what = 0; what < 6; what++) {
            due("large sum " + what, x.sum(0, 1, what), large[what]);
        }
    }

    private static void struck(BeaconLines x) {
        clocks(x, 2);
        hearAll(x, 0, 0, 100, 200, 300, 400, 500);
        hearAll(x, 1, 0, 700, 200, 300, 1400, 500);
        due("the first", x.struck(0, 1, 0), 4);
        due("the second", x.struck(0, 1, 1), 1);
        due("no third", x.struck(0, 1, 2), NONE);
        due("no MAX-th", x.struck(0, 1, MAX), NONE);
        due("struck(0, 1, -1)", x.struck(0, 1, -1), BAD);
        due("struck(0, 1, MIN)", x.struck(0, 1, MIN), BAD);
        due("struck(0, 0, 0)", x.struck(0, 0, 0), BAD);
        due("struck(2, 0, 0)", x.struck(2, 0, 0), BAD);
        due("struck(0, 2, 0)", x.struck(0, 2, 0), BAD);
        due("struck(-1, 0, 0)", x.struck(-1, 0, 0), BAD);
        due("it is good then", x.line(0, 1, 0), 2);
        theLoneOneStays(x);
        ofLikeOnesTheLesserIsStruck(x);
    }

    /** A point that alone is apart from the x of all others is on the line, so it is never struck. */
    private static void theLoneOneStays(BeaconLines x) {
        clocks(x, 2);
        x.set(3, 2);
        x.set(2, 0);
        hearAll(x, 0, 7, 7, 0, 7);
        hearAll(x, 1, 0, 0, 50, 90);
        due("the wild one", x.struck(0, 1, 0), 3);
        due("no other", x.struck(0, 1, 1), NONE);
        due("it is exact then", x.line(0, 1, 0), 2);
        hearAll(x, 0, 8, 8, 8, 8);
        due("all of one x: no line", x.line(0, 1, 0), 0);
        due("nothing struck", x.struck(0, 1, 0), NONE);
        due("none struck", x.line(0, 1, 2), 0);
    }

    private static void ofLikeOnesTheLesserIsStruck(BeaconLines x) {
        clocks(x, 2);
        x.set(3, 2);
        x.set(2, 0);
        hearAll(x, 0, 0, 1, 1, 0);
        hearAll(x, 1, 0, 0, 8, 8);
        // All four are 4 from the line: 0 goes; then 1 and 2 are 4 from it, 3 is on it: 1 goes.
        due("first", x.struck(0, 1, 0), 0);
        due("second", x.struck(0, 1, 1), 1);
        due("left", x.line(0, 1, 1), 2);
        due("the farthest of like ones", x.line(0, 1, 3), 2);
    }

    private static void far(BeaconLines x) {
        clocks(x, 3);
        hearAll(x, 0, 0, 1, 2, -1, 50);
        hearAll(x, 1, 0, 3, 0, 5, -1);
        due("far(0, 1, 0)", x.far(0, 1, 0), 256);
        due("far(0, 1, 1)", x.far(0, 1, 1), 512);
        due("far(0, 1, 2)", x.far(0, 1, 2), 256);
        due("not heard by r", x.far(0, 1, 3), NONE);
        due("not heard by s", x.far(0, 1, 4), NONE);
        due("not heard by any", x.far(0, 1, 5), NONE);
        due("no line", x.far(0, 2, 0), NONE);
        due("far(0, 1, 16)", x.far(0, 1, 16), BAD);
        due("far(0, 1, -1)", x.far(0, 1, -1), BAD);
        due("far(0, 2, 16)", x.far(0, 2, 16), BAD);
        due("far(1, 1, 0)", x.far(1, 1, 0), BAD);
        due("far(3, 1, 0)", x.far(3, 1, 0), BAD);
        due("far(1, 3, 0)", x.far(1, 3, 0), BAD);
        due("far(MIN, MAX, MIN)", x.far(MIN, MAX, MIN), BAD);
        clocks(x, 2);
        x.set(3, 2);
        x.set(2, 0);
        // The steep line through 0, 1 is farthest of all from what was struck at 9999.
        hearAll(x, 0, 0, 1, 9999);
        hearAll(x, 1, 0, 9999, 0);
        due("struck", x.line(0, 1, 2), 1);
        int gone = x.struck(0, 1, 0);
        due("of one that was struck", x.far(0, 1, gone) > 0 ? 1 : 0, 1);
        clocks(x, 2);
        x.set(3, 2);
        hearAll(x, 0, 0, 7, 3);
        hearAll(x, 1, 0, 1, 0);
        x.set(2, 99);
        due("up", x.far(0, 1, 2), ceil(256L * x.sum(0, 1, 5), x.sum(0, 1, 0) * x.sum(0, 1, 3)));
    }

    private static long ceil(long a, long b) {
        return a / b + (a % b == 0 ? 0 : 1);
    }

    private static void cost(BeaconLines x) {
        clocks(x, 4);
        hearAll(x, 0, 0, 10, 20);
        hearAll(x, 1, 0, 10, 20, 30, 40, 50);
        hearAll(x, 2, -1, -1, -1, 0, 3, 0);
        due("to itself", x.cost(0, 0), 0);
        due("one that heard nothing, to itself", x.cost(3, 3), 0);
        due("by one", x.cost(0, 1), 1);
        due("by two", x.cost(0, 2), 514);
        due("none", x.cost(0, 3), NONE);
        due("none", x.cost(3, 0), NONE);
        due("cost(4, 0)", x.cost(4, 0), BAD);
        due("cost(0, 4)", x.cost(0, 4), BAD);
        due("cost(-1, -1)", x.cost(-1, -1), BAD);
        due("cost(MIN, MAX)", x.cost(MIN, MAX), BAD);
        x.set(2, 0);
        due("it is poor now", x.line(1, 2, 0), 1);
        due("none by poor ones", x.cost(0, 2), NONE);
    }

    private static void chain(BeaconLines x) {
        clocks(x, 4);
        hearAll(x, 0, 0, 10, 20, -1, -1, -1);
        hearAll(x, 1, 0, 10, 20, 30, 40, 50);
        hearAll(x, 2, 0, 10, 20, 31, 41, 51);
        hearAll(x, 3, -1, -1, -1, 30, 40, 50);
        int[] due = {0, 1, 3, NONE, NONE};
        for (int i = 0; i < due.length; i++) {
            due("chain(0, 3, " + i + ")", x.chain(0, 3, i), due[i]);
        }
        due("chain(0, 3, MAX)", x.chain(0, 3, MAX), NONE);
        due("alone", x.chain(2, 2, 0), 2);
        due("not more", x.chain(2, 2, 1), NONE);
        due("straight", x.chain(0, 1, 1), 1);
        due("chain(0, 3, -1)", x.chain(0, 3, -1), BAD);
        due("chain(4, 3, 0)", x.chain(4, 3, 0), BAD);
        due("chain(0, 4, 0)", x.chain(0, 4, 0), BAD);
        due("chain(-1, 0, 0)", x.chain(-1, 0, 0), BAD);
        due("chain(0, MIN, MIN)", x.chain(0, MIN, MIN), BAD);
        x.lose(3, 3);
        due("no chain has no first", x.chain(0, 3, 0), NONE);
        due("still alone", x.chain(3, 3, 0), 3);
        byLeastCost(x);
        byTheMostClocks(x);
    }

    /** Straight it is poorer than by way of another; LIMIT lets both be good. */
    private static void byLeastCost(BeaconLines x) {
        clocks(x, 3);
        x.set(2, 99);
        hearAll(x, 0, 0, 10, 20, 100, 110, 120, -1, -1, -1);
        hearAll(x, 1, 0, 10, 20, -1, -1, -1, 30, 40, 50);
        hearAll(x, 2, -1, -1, -1, 100, 150, 120, 30, 40, 50);
        due("straight costs more", x.line(0, 2, 4) > 2 ? 1 : 0, 1);
        due("by way of 1", x.cost(0, 2), 2);
        due("chain(0, 2, 1)", x.chain(0, 2, 1), 1);
        due("chain(0, 2, 2)", x.chain(0, 2, 2), 2);
        x.hear(4, 2, 110);
        due("straight is exact now", x.chain(0, 2, 1), 2);
        due("and costs 1", x.cost(0, 2), 1);
    }

    /** 0 to 6 by all the others: each has two beacons in common with the next alone. */
    private static void byTheMostClocks(BeaconLines x) {
        clocks(x, 7);
        x.set(3, 2);
        for (int r = 0; r < 7; r++) {
            int from = r == 0 ? 2 : 2 * r;
            for (int b = from; b < Math.min(16, 2 * r + 4); b++) {
                x.hear(b, r, 10 * b + r);
            }
        }
        for (int i = 0; i < 7; i++) {
            due("the long one, " + i, x.chain(0, 6, i), i);
            due("and back, " + i, x.chain(6, 0, i), 6 - i);
        }
        due("its end", x.chain(0, 6, 7), NONE);
        due("its cost", x.cost(0, 6), 6);
        due("all reach all", x.rule(6), 42);
    }

    private static void taken(BeaconLines x) {
        clocks(x, 4);
        hearAll(x, 0, 0, 100, 200, -1);
        hearAll(x, 1, 10, 60, 110, -1);
        hearAll(x, 2, -1, -1, -1, 5);
        due("ordinary", x.taken(0, 1, 256 * 100), 256 * 60);
        due("a half goes up", x.taken(0, 1, 1), 2561);
        due("a half goes up below 0", x.taken(0, 1, -1), 2560);
        due("far below 0: the greater", x.taken(0, 1, -5121), 0);
        due("below 0 as it is", x.taken(0, 1, -5124), -2);
        due("ok", x.ok(), 1);
        due("back", x.taken(1, 0, 256 * 60), 256 * 100);
        due("to itself", x.taken(3, 3, Long.MIN_VALUE), Long.MIN_VALUE);
        due("no chain", x.taken(0, 2, 0), STATE);
        due("no chain, however large", x.taken(0, 2, Long.MAX_VALUE), STATE);
        due("taken(4, 0, 0)", x.taken(4, 0, 0), BAD);
        due("taken(0, 4, 0)", x.taken(0, 4, 0), BAD);
        due("taken(-1, -1, 0)", x.taken(-1, -1, 0), BAD);
        due("taken(MIN, MAX, 0)", x.taken(MIN, MAX, 0), BAD);
        beyond64Bits(x);
        roundedAHopAtATime(x);
    }

    /** N is 2, X 1, Y 0, XX 1, XY 0, so that N v and A alone can be beyond. */
    private static void beyond64Bits(BeaconLines x) {
        clocks(x, 2);
        x.set(3, 2);
        hearAll(x, 0, 0, 1);
        hearAll(x, 1, 0, 0);
        long half = Long.MAX_VALUE / 2;
        due("N v just fits", x.taken(0, 1, half), 0);
        due("N v is beyond", x.taken(0, 1, half + 1), FULL);
        long least = (Long.MIN_VALUE + 256) / 2;
        due("A just fits", x.taken(0, 1, least), 0);
        due("A is beyond", x.taken(0, 1, least - 1), FULL);
        due("N v just fits, A is beyond", x.taken(0, 1, Long.MIN_VALUE / 2), FULL);
        due("N v is beyond", x.taken(0, 1, Long.MIN_VALUE / 2 - 1), FULL);
        // Now XY is 3: XY A is the first to be beyond.
        x.hear(1, 1, 3);
        long third = (Long.MAX_VALUE / 3 + 256) / 2;
        due("XY A fits, B (768 more) does not", x.taken(0, 1, third), FULL);
        long fits = (Long.MAX_VALUE / 3 - 256 + 256) / 2;
        due("B just fits", x.taken(0, 1, fits), 3 * fits);
        due("B is beyond", x.taken(0, 1, fits + 1), FULL);
    }

    /** 0 to 1 halves, 1 to 2 doubles: what the first rounding took away does not come back. */
    private static void roundedAHopAtATime(BeaconLines x) {
        clocks(x, 3);
        x.set(3, 2);
        hearAll(x, 0, 0, 2, -1, -1);
        hearAll(x, 1, 0, 1, 5, 6);
        hearAll(x, 2, -1, -1, 10, 12);
        due("an even one", x.taken(0, 2, 6), 6);
        due("an odd one", x.taken(0, 2, 7), 8);
        due("an odd one below 0", x.taken(0, 2, -7), -6);
    }

    private static void ok(BeaconLines x) {
        due("at first", x.ok(), 0);
        x.taken(0, 0, -3);
        due("taken", x.ok(), 1);
        due("told again", x.ok(), 1);
        x.taken(0, 1, 0);
        due("BAD", x.ok(), 0);
        x.there(0, 0, -3);
        due("there", x.ok(), 1);
        x.there(-1, 0, 0);
        due("BAD of there", x.ok(), 0);
        clocks(x, 2);
        x.taken(1, 1, 5);
        x.cost(9, 9);
        x.hear(0, 0, -1);
        due("other calls leave it", x.ok(), 1);
        x.taken(0, 1, 0);
        due("STATE", x.ok(), 0);
        x.taken(1, 1, 5);
        x.there(0, 1, 0);
        due("STATE of there", x.ok(), 0);
        x.set(3, 2);
        hearAll(x, 0, 0, 1);
        hearAll(x, 1, 0, 1);
        x.taken(0, 1, 5);
        due("taken by a line", x.ok(), 1);
        x.taken(0, 1, Long.MAX_VALUE);
        due("FULL", x.ok(), 0);
        x.keep(0);
        x.there(0, 1, 5);
        x.back(0);
        x.draw(1, 2);
        due("back, draw leave it", x.ok(), 1);
        x.back(0);
        x.there(0, 1, Long.MIN_VALUE);
        due("FULL of there", x.ok(), 0);
    }

    private static void there(BeaconLines x) {
        clocks(x, 3);
        x.set(3, 2);
        hearAll(x, 0, 0, 2, 7, 9);
        hearAll(x, 1, 0, 1, -1, -1);
        hearAll(x, 2, -1, -1, 3, 3);
        due("even", x.there(0, 1, 8), 0);
        due("odd", x.there(0, 1, 9), 1);
        due("odd, below 0", x.there(0, 1, -9), 1);
        due("the other way", x.there(1, 0, 9), 0);
        due("itself", x.there(2, 2, Long.MAX_VALUE), 0);
        due("0 reaches 2", x.cost(0, 2), 1);
        due("2 does not reach 0", x.there(0, 2, 1), STATE);
        due("nor here", x.there(2, 0, 1), STATE);
        due("STATE before FULL", x.there(0, 2, Long.MAX_VALUE), STATE);
        due("FULL", x.there(0, 1, Long.MAX_VALUE), FULL);
        due("FULL on the way back", x.there(1, 0, Long.MAX_VALUE / 5), FULL);
        due("there(3, 0, 0)", x.there(3, 0, 0), BAD);
        due("there(0, 3, 0)", x.there(0, 3, 0), BAD);
        due("there(-1, 0, 0)", x.there(-1, 0, 0), BAD);
        due("there(MAX, MIN, 0)", x.there(MAX, MIN, 0), BAD);
    }

    private static void hear(BeaconLines x) {
        clocks(x, 2);
        due("the first", x.hear(0, 0, 0), NONE);
        due("the second", x.hear(0, 0, 9999), 0);
        due("the third", x.hear(0, 0, 1), 9999);
        due("another beacon", x.hear(15, 1, 5), NONE);
        int[][] wrong = {{-1, 0, 0}, {16, 0, 0}, {0, -1, 0}, {0, 2, 0}, {0, 0, -1}, {0, 0, 10000},
            {MIN, MIN, MIN}, {MAX, 0, 0}, {0, MAX, 0}, {0, 0, MAX}};
        for (int[] w : wrong) {
            due("hear(" + w[0] + ", " + w[1] + ", " + w[2] + ")", x.hear(w[0], w[1], w[2]), BAD);
        }
        due("stamp(0, 0)", x.stamp(0, 0), 1);
        due("stamps", x.rule(1), 2);
        hearAll(x, 0, 0, 10, 20);
        hearAll(x, 1, 0, 10, 20);
        due("a good line", x.line(0, 1, 0), 2);
        x.hear(1, 1, 500);
        due("it is fitted anew", x.line(0, 1, 0), 1);
        due("the other way, too", x.line(1, 0, 0), 1);
    }

    private static void lose(BeaconLines x) {
        clocks(x, 2);
        hearAll(x, 0, 0, 10, 20);
        hearAll(x, 1, 5, 10, 20);
        due("a good line", x.line(0, 1, 0), 2);
        due("lost", x.lose(0, 1), 5);
        due("not twice", x.lose(0, 1), NONE);
        due("a stamp 0", x.lose(0, 0), 0);
        due("stamp", x.stamp(0, 1), NONE);
        due("no line now", x.line(0, 1, 0), 0);
        due("lose(-1, 0)", x.lose(-1, 0), BAD);
        due("lose(16, 0)", x.lose(16, 0), BAD);
        due("lose(0, -1)", x.lose(0, -1), BAD);
        due("lose(0, 2)", x.lose(0, 2), BAD);
        due("lose(MAX, MIN)", x.lose(MAX, MIN), BAD);
        due("stamps", x.rule(1), 4);
    }

    private static void shift(BeaconLines x) {
        clocks(x, 3);
        hearAll(x, 0, 0, 10, 20);
        hearAll(x, 1, 9999, 9000);
        due("none to shift", x.shift(2, 9999), 0);
        due("up", x.shift(0, 9979), 3);
        due("the last", x.stamp(2, 0), 9999);
        due("too far up", x.shift(0, 1), STATE);
        due("too far down", x.shift(0, -9980), STATE);
        due("nothing changed", x.stamp(0, 0), 9979);
        due("down", x.shift(0, -9979), 3);
        due("the first", x.stamp(0, 0), 0);
        due("by 0", x.shift(1, 0), 2);
        due("-9999 is no BAD", x.shift(1, -9999), STATE);
        due("9999 is no BAD", x.shift(1, 9999), STATE);
        due("others are let be", x.stamp(0, 1), 9999);
        due("shift(0, 10000)", x.shift(0, 10000), BAD);
        due("shift(0, -10000)", x.shift(0, -10000), BAD);
        due("shift(0, MIN)", x.shift(0, MIN), BAD);
        due("shift(3, 0)", x.shift(3, 0), BAD);
        due("shift(-1, 0)", x.shift(-1, 0), BAD);
        due("shift(MAX, MAX)", x.shift(MAX, MAX), BAD);
        hearAll(x, 1, 0, 10, 20);
        due("sum before", x.sum(0, 1, 1), 30);
        x.shift(0, 7);
        due("fitted anew", x.sum(0, 1, 1), 51);
        due("the other way, too", x.sum(1, 0, 2), 51);
    }

    private static void set(BeaconLines x) {
        due("LIMIT to 0", x.set(2, 0), 2);
        due("LIMIT to 99", x.set(2, 99), 0);
        due("LEAST to 6", x.set(3, 6), 3);
        due("LEAST to 2", x.set(3, 2), 6);
        int[][] wrong = {{2, -1}, {2, 100}, {3, 1}, {3, 7}, {0, 3}, {1, 3}, {4, 3}, {-1, 3},
            {2, MIN}, {3, MAX}, {MIN, 3}, {MAX, 3}};
        for (int[] w : wrong) {
            due("set(" + w[0] + ", " + w[1] + ")", x.set(w[0], w[1]), BAD);
        }
        due("LIMIT", x.rule(2), 99);
        due("LEAST", x.rule(3), 2);
    }

    private static void draw(BeaconLines x) {
        due("draw(0, 0)", x.draw(0, 0), BAD);
        due("draw(0, 8)", x.draw(0, 8), BAD);
        due("draw(0, MIN)", x.draw(0, MIN), BAD);
        due("nothing was drawn", x.rule(0), 1);
        x.set(2, 50);
        x.set(3, 5);
        x.keep(1);
        due("draw(5, 5)", x.draw(5, 5), 62);
        due("limit stays", x.rule(2), 50);
        due("least stays", x.rule(3), 5);
        due("images stay", x.count(0), 1);
        due("stamp(15, 4)", x.stamp(15, 4), 810);
        due("a line before", x.line(0, 1, 0), 2);
        long sum = x.sum(0, 1, 1);
        x.draw(6, 2);
        due("lines are fitted anew", x.sum(0, 1, 1) != sum ? 1 : 0, 1);
        for (int seed : new int[] {0, 1, -1, MIN, MAX, 1103515245}) {
            for (int n = 1; n <= 7; n++) {
                drawnAsDue(new BeaconLines(), seed, n);
            }
        }
    }

    /** The same by longs, of which the lowest bits are those of the ints. */
    private static void drawnAsDue(BeaconLines x, int seed, int n) {
        long[] s = {seed};
        int[] offset = new int[n];
        int[] skew = new int[n];
        for (int r = 0; r < n; r++) {
            offset[r] = got(s) % 500;
            skew[r] = got(s) % 5;
        }
        int[][] stamps = new int[16][n];
        int all = 0;
        for (int b = 0; b < 16; b++) {
            for (int r = 0; r < n; r++) {
                int heard = got(s) % 4;
                int noise = got(s) % 3;
                int wild = got(s) % 9 == 0 ? 97 : 0;
                stamps[b][r] = heard == 0 ? NONE : offset[r] + 40 * b + 40 + skew[r] * b + noise + wild;
                all += heard == 0 ? 0 : 1;
            }
        }
        due("draw(" + seed + ", " + n + ")", x.draw(seed, n), all);
        due("clocks", x.rule(0), n);
        for (int b = 0; b < 16; b++) {
            for (int r = 0; r < n; r++) {
                due("stamp(" + b + ", " + r + ") of seed " + seed, x.stamp(b, r), stamps[b][r]);
            }
        }
    }

    private static int got(long[] s) {
        s[0] = s[0] * 1103515245L + 12345L;
        return (int) (s[0] / 65536 - (s[0] % 65536 < 0 ? 1 : 0)) & 32767;
    }

    private static void keep(BeaconLines x) {
        due("keep(0)", x.keep(0), 0);
        due("keep(0) again", x.keep(0), 1);
        due("keep(1)", x.keep(1), 0);
        due("keep(-1)", x.keep(-1), BAD);
        due("keep(2)", x.keep(2), BAD);
        due("keep(MAX)", x.keep(MAX), BAD);
        x.draw(3, 4);
        x.keep(0);
        int had = x.stamp(15, 3);
        x.shift(3, 100);
        x.lose(15, 3);
        x.back(0);
        due("it is as it was kept", x.stamp(15, 3), had);
        x.back(1);
        due("the other is its own", x.rule(0), 1);
    }

    private static void back(BeaconLines x) {
        due("back(0)", x.back(0), STATE);
        due("back(2)", x.back(2), BAD);
        due("back(-1)", x.back(-1), BAD);
        due("back(MIN)", x.back(MIN), BAD);
        goodText(x, "clocks 3;hear 0 0 1;hear 1 1 2;hear 2 2 3;limit 9;least 6;", 3);
        x.keep(1);
        due("back(0)", x.back(0), STATE);
        x.draw(7, 7);
        x.set(2, 1);
        x.set(3, 2);
        x.sheet(0, 0, 4);
        x.feed('a');
        due("good lines before", x.rule(4) > 0 ? 1 : 0, 1);
        due("back(1)", x.back(1), 3);
        due("good lines", x.rule(4), 0);
        due("clocks", x.rule(0), 3);
        due("no clock 3", x.stamp(0, 3), BAD);
        due("stamp", x.stamp(2, 2), 3);
        due("stamp", x.stamp(2, 1), NONE);
        due("limit", x.rule(2), 9);
        due("least", x.rule(3), 6);
        due("the image is there still", x.back(1), 3);
        due("sheets stay", x.count(2), 4);
        due("the tape stays", x.count(1), 1);
    }

    private static void sheet(BeaconLines x) {
        due("sheet(0, 0, 0)", x.sheet(0, 0, 0), 1);
        due("a row without cells", x.count(2), 0);
        due("is not nothing", x.lay(0, 0, 0), -13);
        due("sheet(3, 2, 48)", x.sheet(3, 2, 48), 1);
        due("its last", x.lay(3, 47, 1), 1);
        due("n above 48", x.sheet(3, 2, 49), BAD);
        due("n below 0", x.sheet(3, 2, -1), -14);
        due("n far below 0", x.sheet(3, 2, MIN), -14);
        due("it is as it was", x.lay(3, 47, 1), 1);
        due("sheet(-1, 0, 0)", x.sheet(-1, 0, 0), BAD);
        due("sheet(4, 0, 0)", x.sheet(4, 0, 0), BAD);
        due("sheet(0, -1, 0)", x.sheet(0, -1, 0), BAD);
        due("sheet(0, 3, 0)", x.sheet(0, 3, 0), BAD);
        due("BAD before SIZE", x.sheet(4, 0, -1), BAD);
        due("BAD before SIZE", x.sheet(0, 3, -1), BAD);
        due("sheet(0, 0, MAX)", x.sheet(0, 0, MAX), BAD);
        x.sheet(1, 1, 2);
        x.lay(1, 0, 77);
        x.read(1, 1, 0, 0, 1);
        due("before", x.stamp(0, 0), 77);
        x.sheet(1, 1, 2);
        x.read(1, 1, 0, 0, 1);
        due("new cells are 0", x.stamp(0, 0), 0);
        x.sheet(1, 0, 2);
        due("its lane is new", x.read(1, 1, 0, 0, 1), -12);
    }

    private static void lay(BeaconLines x) {
        due("nothing", x.lay(0, 0, 1), -11);
        due("nothing comes before INDEX", x.lay(0, -1, 1), -11);
        due("lay(-1, 0, 0)", x.lay(-1, 0, 0), BAD);
        due("lay(4, 0, 0)", x.lay(4, 0, 0), BAD);
        due("lay(MAX, 0, 0)", x.lay(MAX, 0, 0), BAD);
        for (int lane = 0; lane < 3; lane++) {
            x.sheet(lane, lane, 3);
            due("lay(., 3, 0)", x.lay(lane, 3, 0), -13);
            due("lay(., -1, 0)", x.lay(lane, -1, 0), -13);
            due("lay(., MIN, 0)", x.lay(lane, MIN, 0), -13);
            due("lay(., MAX, 0)", x.lay(lane, MAX, 0), -13);
            due("lay(., 0, .)", x.lay(lane, 0, 65536 + 12), 1);
            due("lay(., 1, .)", x.lay(lane, 1, 32768), 1);
            due("lay(., 2, .)", x.lay(lane, 2, -65536 + 34), 1);
        }
        x.hear(1, 0, 5);
        due("shorts keep their lowest bits", x.read(0, 0, 0, 0, 3), 3);
        due("stamp(0, 0)", x.stamp(0, 0), 12);
        due("32768 is below 0 as a short", x.stamp(1, 0), NONE);
        due("stamp(2, 0)", x.stamp(2, 0), 34);
        due("ints keep all", x.read(1, 1, 0, 0, 3), -20);
        due("longs keep all", x.read(2, 2, 1, 0, 2), -20);
        due("below 0 as a long", x.read(2, 2, 2, 0, 1), 1);
        due("stamp(0, 0)", x.stamp(0, 0), NONE);
    }

    private static void read(BeaconLines x) {
        clocks(x, 2);
        due("nothing", x.read(0, 0, 0, 0, 1), -11);
        due("nothing, n 0", x.read(0, 0, -5, 0, 0), 0);
        x.sheet(0, 1, 20);
        due("another lane, n 0", x.read(0, 2, MIN, 0, 0), 0);
        due("another lane", x.read(0, 2, 0, 0, 1), -12);
        due("another lane before the index", x.read(0, 0, -1, 0, 1), -12);
        due("f below 0", x.read(0, 1, -1, 0, 1), -13);
        due("f below 0, though others are there", x.read(0, 1, -1, 0, 5), -13);
        due("f MIN", x.read(0, 1, MIN, 0, 16), -13);
        due("f MAX", x.read(0, 1, MAX, 0, 16), -13);
        due("f behind", x.read(0, 1, 20, 0, 1), -13);
        int[][] wrong = {{-1, 1, 0, 0, 0}, {4, 1, 0, 0, 0}, {0, -1, 0, 0, 0}, {0, 3, 0, 0, 0},
            {0, 1, 0, -1, 0}, {0, 1, 0, 2, 0}, {0, 1, 0, 0, -1}, {0, 1, 0, 0, 17}, {1, 1, 0, 0, 17},
            {0, 1, 0, 0, MIN}, {MAX, MAX, MAX, MAX, MAX}};
        for (int[] w : wrong) {
            due("read of " + java.util.Arrays.toString(w), x.read(w[0], w[1], w[2], w[3], w[4]), BAD);
        }
        for (int i = 0; i < 20; i++) {
            x.lay(0, i, 100 + i);
        }
        due("to its last", x.read(0, 1, 4, 1, 16), 16);
        due("stamp(0, 1)", x.stamp(0, 1), 104);
        due("stamp(15, 1)", x.stamp(15, 1), 119);
        due("the other heard nothing", x.clock(0, 0), 0);
        due("beyond its last", x.read(0, 1, 5, 1, 16), -13);
        due("nothing changed", x.stamp(0, 1), 104);
        readFirstMet(x);
    }

    private static void readFirstMet(BeaconLines x) {
        x.lay(0, 0, -1);
        x.lay(0, 1, 9999);
        x.lay(0, 2, 0);
        x.lay(0, 3, 10000);
        x.lay(0, 19, MAX);
        due("the fourth is too great", x.read(0, 1, 0, 1, 4), -23);
        due("nothing changed", x.stamp(0, 1), 104);
        due("too great before it ends", x.read(0, 1, 19, 1, 2), -20);
        due("the 16th", x.read(0, 1, 4, 1, 16), -35);
        due("three", x.read(0, 1, 0, 1, 3), 3);
        due("below 0 is lost", x.stamp(0, 1), NONE);
        due("9999", x.stamp(1, 1), 9999);
        due("0", x.stamp(2, 1), 0);
        due("behind them all stays", x.stamp(3, 1), 107);
        due("stamps", x.clock(1, 0), 15);
        x.lay(0, 4, 5);
        due("a sheet is read, not tied", x.stamp(4, 1), 108);
        hearAll(x, 0, 0, 0, 10, 20, 30);
        due("N before", x.sum(0, 1, 0), 3);
        x.lay(0, 0, 7);
        x.lay(0, 1, 8);
        x.lay(0, 2, 9);
        due("read", x.read(0, 1, 0, 1, 3), 3);
        due("fitted anew", x.line(0, 1, 1) + x.line(0, 1, 2), 5);
    }

    private static void count(BeaconLines x) {
        due("count(-1)", x.count(-1), BAD);
        due("count(3)", x.count(3), BAD);
        due("count(MIN)", x.count(MIN), BAD);
        due("count(MAX)", x.count(MAX), BAD);
        due("no sheet", x.count(2), NONE);
        x.sheet(1, 0, 5);
        due("another sheet", x.count(2), NONE);
        x.sheet(0, 0, 48);
        due("48", x.count(2), 48);
        x.sheet(0, 2, 0);
        due("0", x.count(2), 0);
        x.keep(1);
        due("one image", x.count(0), 1);
        x.keep(1);
        due("still one", x.count(0), 1);
        x.keep(0);
        due("two", x.count(0), 2);
        x.feed(0);
        x.feed(1);
        due("two bytes", x.count(1), 2);
        x.end(1);
        due("one byte", x.count(1), 1);
        x.text();
        due("none", x.count(1), 0);
        due("a fault leaves the images", x.count(0), 2);
    }
}
