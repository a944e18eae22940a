/** For each promise of the document: ordinary calls, the edges that it names, and wrong numbers. */
public final class PromisesTest {
    private static final int BAD = -1;
    private static final int STATE = -2;
    private static final int FULL = -3;
    private static final int NONE = -9;
    private static final int IN = -5;
    private static final int POND = -6;
    private static final int MIN = Integer.MIN_VALUE;
    private static final int MAX = Integer.MAX_VALUE;

    /** The hole three cells right of the TEE, all green; one player. */
    private static final String LANE = "w7;rfffhfff;t0 0;n1;";
    /** A mill that is open in even ticks stands between the TEE and the hole. */
    private static final String MILL = "w3;rfmh;t0 0;s2 0;";
    /** A pond right of the TEE, the hole cannot be come to; two players. */
    private static final String WET = "w3;rfpf;rfxx;rfxh;t0 0;";

    public static void main(String[] args) {
        Due.test("promise 1, aNewObject", PromisesTest::aNewObject);
        Due.test("promise 2, type", PromisesTest::type);
        Due.test("promise 3, clear", PromisesTest::clear);
        Due.test("promise 4, lawnAnswers", PromisesTest::lawnAnswers);
        Due.test("promise 4, lawnFaults", PromisesTest::lawnFaults);
        Due.test("promise 4, lawnNumbers", PromisesTest::lawnNumbers);
        Due.test("promise 4, lawnBeginsAnew", PromisesTest::lawnBeginsAnew);
        Due.test("promise 4, lawnAgainAndAgain", PromisesTest::lawnAgainAndAgain);
        Due.test("promise 5, cell", PromisesTest::cell);
        Due.test("promise 6, score", PromisesTest::score);
        Due.test("promise 7, now", PromisesTest::now);
        Due.test("promise 8, strikes", PromisesTest::strikes);
        Due.test("promise 8, strikesOverTheHole", PromisesTest::strikesOverTheHole);
        Due.test("promise 8, strikesAtMills", PromisesTest::strikesAtMills);
        Due.test("promise 8, strikesUntilOver", PromisesTest::strikesUntilOver);
        Due.test("promise 9, waits", PromisesTest::waits);
        Due.test("promise 10, boards", PromisesTest::boards);
        Due.test("promise 11, undo", PromisesTest::undo);
        Due.test("promise 11, undoTen", PromisesTest::undoTen);
        Due.test("promise 12, would", PromisesTest::would);
        Due.test("promise 13, when", PromisesTest::when);
        Due.test("promise 14, home", PromisesTest::home);
        Due.test("promise 14, homeThroughMills", PromisesTest::homeThroughMills);
        Due.test("promise 15, ones", PromisesTest::ones);
        Due.test("promise 16, odds", PromisesTest::odds);
        Due.test("promise 17, lay", PromisesTest::lay);
        Due.test("promise 18, forget", PromisesTest::forget);
        Due.test("promise 19, which", PromisesTest::which);
        Due.test("promise 20, best", PromisesTest::best);
        Due.test("promise 21, boardHelps", PromisesTest::boardHelps);
        Due.test("promise 21, boardHarms", PromisesTest::boardHarms);
        Due.test("promise 22, rate", PromisesTest::rate);
        Due.test("promise 23, keep", PromisesTest::keep);
        Due.test("promise 24, back", PromisesTest::back);
        Due.test("promise 25, count", PromisesTest::count);
        Due.test("promise 26, trace", PromisesTest::trace);
        Due.test("promises 7 to 24, nobodyIsOn", PromisesTest::nobodyIsOn);
        Due.end("PromisesTest");
    }

    private static void aNewObject() {
        MillSails mill = new MillSails();
        int[] counts = {0, 0, 3, 0, 2, NONE, 0, 0};
        for (int what = 0; what < counts.length; what++) {
            Due.is("1 count " + what, mill.count(what), counts[what]);
        }
        int[] nows = {0, NONE, NONE, 0, 1, NONE, 0};
        for (int what = 0; what < nows.length; what++) {
            Due.is("1 now " + what, mill.now(what), nows[what]);
        }
        Due.is("1 no cells", mill.cell(0, 0), BAD);
        Due.is("1 scores", mill.score(0) + mill.score(1), 0);
        Due.is("1 trace", mill.trace(), 0);
        Due.is("1 no image", mill.back(0), STATE);
        Due.is("1 nothing done", mill.undo(), STATE);
    }

    private static void type() {
        MillSails mill = new MillSails();
        Due.is("2 below", mill.type(-1), BAD);
        Due.is("2 above", mill.type(256), BAD);
        Due.is("2 least", mill.type(0), 1);
        Due.is("2 most", mill.type(255), 2);
        for (int i = 3; i <= 150; i++) {
            Due.is("2 letter " + i, mill.type(32), i);
        }
        Due.is("2 full", mill.type(32), FULL);
        Due.is("2 bad ahead of full", mill.type(MAX), BAD);
        Due.is("2 letters", mill.count(7), 150);
        Due.is("2 the first letter stayed", mill.lawn(), -10);
    }

    private static void clear() {
        MillSails mill = new MillSails();
        Due.is("3 empty", mill.clear(), 0);
        Due.type(mill, "w2;");
        Due.is("3 three", mill.clear(), 3);
        Due.is("3 letters", mill.count(7), 0);
        Due.is("3 empty again", mill.clear(), 0);
        Due.is("3 nothing is told", mill.lawn(), 0);
    }

    private static int lawnOf(String text) {
        MillSails mill = new MillSails();
        Due.type(mill, text);
        int answer = mill.lawn();
        Due.is("4 letters behind " + text, mill.count(7), answer < 0 ? text.length() : 0);
        return answer;
    }

    private static void lawnAnswers() {
        String[] texts = {"", "   ", "w2;", " w 7 ; ", "s6 5;", "n4;", "n1;s2 1;", "w2;rff;", "w2 ; r f f ; t 1 0 ;",
            "w2;n1;rff;s2 0;rhf;t0 0;", "w2;rff;t0 0;n1;s3 2;", "w2;rff;rff;rff;rff;rff;rff;rff;"};
        int[] items = {0, 0, 1, 1, 1, 1, 2, 2, 3, 6, 5, 8};
        for (int i = 0; i < texts.length; i++) {
            Due.is("4 items of " + texts[i], lawnOf(texts[i]), items[i]);
        }
    }

    /** Each text's fault is where the sign ! stands; the sign itself is not typed. */
    private static void lawnFaults() {
        String[] texts = {"!a", "!;", "!5", " !A", "w2;!\t", "w!", "w2!", "w2 !", "w2!w", "w!;", "w2;!w3;", "n1;!w2;",
            "!rff;", "s3 1;!r", "n1;t!0 0;", "w2;t!00;", "w2;rff;t!00;", "w2;t0 !0;", "w2;rff;t!2 0;", "w2;rff;t0 !1;", "w2;rfx;t1 !0;",
            "w2;rhf;t0 !0;", "w2;rpm;t0 !0", "w2;rpm;t1 !0;", "w2;rff;t0 0!", "w2;rff;t0 0 !0;", "w2;rff;t0 0;!rff;",
            "w2;rff;t0 0;!t0 0;", "w2;rf!;", "w2;rff!f;", "w2;rff!", "w2;rfh;r!h", "w2;rf!a;", "w2;rf!1;", "w2;r!w",
            "s3 1;!s3 1;", "n2;!n2;", "s!1", "s!7", "s2 !2;", "s6 !6;", "s3!;", "s3 !11;",
            "n!0;", "n!5;", "n!;", "n1 !1;", "n!01;", "n!00", "n!100;", "n!99999999999;", "n!19;", "n!91;", "s3 !01;", "w!1;", "w!8;",
            "w2;rff;rff;rff;rff;rff;rff;rff;!rff;", "n1;!n", "w2;rff!\0;", "w2;rff!\u00ff;"};
        for (String marked : texts) {
            int place = marked.indexOf('!');
            String text = marked.substring(0, place) + marked.substring(place + 1);
            Due.is("4 fault of " + marked, lawnOf(text), -10 - place);
        }
    }

    private static void lawnNumbers() {
        MillSails mill = Due.told("w7;rfffffff;rfffffff;t6 1;s6 5;n4;");
        int[] counts = {7, 2, 6, 5, 4, 16, 0, 0};
        for (int what = 0; what < counts.length; what++) {
            Due.is("4 told " + what, mill.count(what), counts[what]);
        }
        Due.is("4 a lawn without rows", Due.told("w5;").count(0), 5);
        Due.is("4 it has none", Due.told("w5;").count(1), 0);
    }

    private static void lawnBeginsAnew() {
        MillSails mill = Due.told("w3;rffx;rffh;t0 0;s5 4;n4;");
        mill.rate(0, 2, 0);
        mill.waits(3);
        mill.lay(0, 0);
        mill.keep(0);
        Due.type(mill, "w2;r");
        Due.is("4 a fault", mill.lawn(), -14);
        Due.is("4 the tick stays", mill.now(0), 3);
        Due.is("4 wide stays", mill.count(0), 3);
        Due.is("4 the text stays", mill.count(7), 4);
        Due.is("4 lay stays", mill.count(6), 1);
        Due.is("4 undo stays", mill.now(6), 1);
        Due.is("4 the image stays", mill.back(0), 3);
        mill.waits(1);
        mill.clear();
        Due.is("4 nothing told", mill.lawn(), 0);
        int[] counts = {0, 0, 3, 0, 2, NONE, 0, 0};
        for (int what = 0; what < counts.length; what++) {
            Due.is("4 as at first " + what, mill.count(what), counts[what]);
        }
        Due.is("4 tick 0", mill.now(0), 0);
        Due.is("4 nothing to undo", mill.undo(), STATE);
        Due.is("4 images are gone", mill.back(0), STATE);
        Due.is("4 the trace goes on", mill.trace(), 1);
        Due.is("4 no cells", mill.cell(0, 0), BAD);
        Due.is("4 nobody is on", mill.now(1), NONE);
        Due.type(mill, "w2;rff;rff;");
        Due.is("4 smaller", mill.lawn(), 3);
        Due.is("4 no old board", mill.boards(0, 0, 1), 1);
        Due.is("4 no old hole", mill.ones(), 0);
        Due.is("4 scores", mill.score(1), 0);
    }

    /** A text that is read behind others, and behind faults, is read as by a new object. */
    private static void lawnAgainAndAgain() {
        MillSails mill = Due.told("w3;rxmh;rppp;rfff;t0 2;s4 3;n4;");
        for (int i = 0; i < 3; i++) {
            Due.type(mill, "w3;rhxm;rpmx;s2 1;n1;rhhh;");
            Due.is("4 a second hole " + i, mill.lawn(), -32);
            mill.clear();
            Due.type(mill, "w3;rffh;n3;t0 0;s5 2;");
            Due.is("4 items again " + i, mill.lawn(), 5);
            mill.strikes(1, 2);
            mill.strikes(1, 1);
            Due.type(mill, "w2;rff;rff;t1 1;");
            Due.is("4 less is told " + i, mill.lawn(), 4);
            int[] counts = {2, 2, 3, 0, 2, 11, 0, 0};
            for (int what = 0; what < counts.length; what++) {
                Due.is("4 told anew " + what, mill.count(what), counts[what]);
            }
            int[] nows = {0, 0, 11, 0, 1, NONE, 0};
            for (int what = 0; what < nows.length; what++) {
                Due.is("4 now anew " + what, mill.now(what), nows[what]);
            }
            Due.is("4 all green", mill.cell(0, 0) + mill.cell(1, 0) + mill.cell(0, 1) + mill.cell(1, 1), 0);
            Due.is("4 nobody is done", mill.score(0), 0);
        }
    }

    private static void cell() {
        MillSails mill = Due.told("w5;rfxphm;rfffff;");
        for (int x = 0; x < 5; x++) {
            Due.is("5 cell " + x, mill.cell(x, 0), x);
        }
        mill.boards(4, 1, 1);
        Due.is("5 a board was set", mill.cell(4, 1), 1);
        mill.boards(1, 0, 0);
        Due.is("5 a board was taken", mill.cell(1, 0), 0);
        Due.is("5 x below", mill.cell(-1, 0), BAD);
        Due.is("5 x above", mill.cell(5, 0), BAD);
        Due.is("5 y below", mill.cell(0, -1), BAD);
        Due.is("5 y above", mill.cell(0, 2), BAD);
        Due.is("5 far", mill.cell(MAX, MIN), BAD);
    }

    private static void score() {
        MillSails mill = Due.told("w3;rfhf;t0 0;n3;");
        Due.is("6 not done", mill.score(0), 0);
        mill.strikes(0, 1);
        mill.strikes(1, 1);
        Due.is("6 done", mill.score(0), 2);
        Due.is("6 the next is not", mill.score(1), 0);
        Due.is("6 last", mill.score(2), 0);
        Due.is("6 above", mill.score(3), BAD);
        Due.is("6 below", mill.score(-1), BAD);
        Due.is("6 far", mill.score(MIN), BAD);
    }

    private static void now() {
        MillSails mill = Due.told("w3;rffh;rfff;t1 1;s4 2;n2;");
        int[] first = {0, 0, 11, 0, 0, NONE, 0};
        for (int what = 0; what < first.length; what++) {
            Due.is("7 at first " + what, mill.now(what), first[what]);
        }
        mill.strikes(3, 1);
        mill.waits(1);
        int[] then = {2, 0, 10, 1, 1, NONE, 2};
        for (int what = 0; what < then.length; what++) {
            Due.is("7 then " + what, mill.now(what), then[what]);
        }
        Due.is("7 below", mill.now(-1), BAD);
        Due.is("7 above", mill.now(7), BAD);
        // Player 0 needs 3 strokes, player 1 needs 2: the leader is who needed least.
        mill.strikes(0, 1);
        mill.strikes(1, 2);
        Due.is("7 leader of one", mill.now(5), 0);
        Due.is("7 the next is on", mill.now(1), 1);
        Due.is("7 on the tee", mill.now(2), 11);
        Due.is("7 no strokes", mill.now(3), 0);
        mill.strikes(1, 1);
        mill.strikes(0, 1);
        Due.is("7 leader", mill.now(5), 1);
        Due.is("7 over", mill.now(1), NONE);
        Due.is("7 no ball", mill.now(2), NONE);
        Due.is("7 nobody's strokes", mill.now(3), 0);
        MillSails even = Due.told("w2;rfh;t0 0;n3;");
        for (int p = 0; p < 3; p++) {
            even.strikes(1, 1);
        }
        Due.is("7 of several the lowest", even.now(5), 0);
    }

    private static void strikes() {
        MillSails mill = Due.told("w4;rfffx;rffpf;rfffh;t1 1;");
        Due.is("8 way below", mill.strikes(-1, 1), BAD);
        Due.is("8 way above", mill.strikes(4, 1), BAD);
        Due.is("8 hard below", mill.strikes(0, 0), BAD);
        Due.is("8 hard above", mill.strikes(0, 7), BAD);
        Due.is("8 far", mill.strikes(MAX, MIN), BAD);
        Due.is("8 nothing was struck", mill.now(3) + mill.now(6) + mill.now(0), 0);
        Due.is("8 up", mill.strikes(0, 1), 1);
        Due.is("8 right, back from a board", mill.strikes(1, 4), 0);
        Due.is("8 down, back from the edge", mill.strikes(2, 4), 10);
        Due.is("8 ticks", mill.now(0), 9);
        Due.is("8 a pond", mill.strikes(1, 6), POND);
        Due.is("8 it ended in the pond", mill.now(0), 11);
        Due.is("8 it lies where it was", mill.now(2), 10);
        Due.is("8 one more stroke", mill.now(3), 5);
        Due.is("8 left, from edge to edge", mill.strikes(3, 1), 10);
        Due.is("8 six strokes", mill.score(0), 7);
        Due.is("8 the next is on", mill.now(1), 1);
        Due.is("8 his ball", mill.now(2), 11);
        Due.is("8 his strokes", mill.now(3), 0);
        Due.is("8 the tick goes on", mill.now(0), 12);
    }

    private static void strikesOverTheHole() {
        int[] ends = {1, 2, IN, IN, 5, 6};
        int[] ticks = {1, 2, 3, 3, 5, 6};
        for (int hard = 1; hard <= 6; hard++) {
            MillSails mill = Due.told(LANE);
            Due.is("8 hard " + hard, mill.strikes(1, hard), ends[hard - 1]);
            Due.is("8 ticks of hard " + hard, mill.now(0), ticks[hard - 1]);
            Due.is("8 score of hard " + hard, mill.score(0), ends[hard - 1] == IN ? 1 : 0);
        }
        // From the right edge back: the hole is passed at first, and met again on the way back.
        MillSails back = Due.told("w3;rfhx;t0 0;");
        Due.is("8 stays in the hole's cell, then rolls on", back.would(1, 3), 0);
        Due.is("8 back from the edge", back.would(1, 4), 0);
        Due.is("8 over the hole, twice round, and in", back.would(1, 5), IN);
        Due.is("8 over the hole, twice round, and in", back.would(1, 6), IN);
        // A mill shut behind it: the ball comes to lie where the hole is, and has not gone to it.
        MillSails shut = Due.told("w4;rfmhx;t0 0;s4 1;n1;");
        Due.is("8 lies in the hole's cell", shut.strikes(1, 4), 2);
        Due.is("8 it is not in", shut.score(0), 0);
        Due.is("8 it lies there", shut.now(2), 2);
    }

    private static void strikesAtMills() {
        MillSails mill = Due.told(MILL);
        Due.is("8 shut in tick 1", mill.strikes(1, 1), 0);
        Due.is("8 open in tick 2", mill.strikes(1, 1), 1);
        Due.is("8 it lies on a mill", mill.now(2), 1);
        Due.is("8 from a mill", mill.strikes(1, 1), IN);
        MillSails late = Due.told("w4;rffmf;t0 0;s4 3;");
        Due.is("8 open in tick 3, here at 2", late.would(1, 3), 0);
        late.waits(1);
        Due.is("8 open in tick 3, here at 3", late.would(1, 3), 3);
        late.waits(4);
        Due.is("8 open in tick 7, here at 7", late.would(1, 2), 2);
    }

    private static void strikesUntilOver() {
        MillSails mill = Due.told(WET);
        for (int p = 0; p < 2; p++) {
            for (int i = 0; i < 2; i++) {
                Due.is("8 wet " + p + i, mill.strikes(1, 1), POND);
                Due.is("8 not yet " + p + i, mill.score(p), 0);
            }
            Due.is("8 dry " + p, mill.strikes(2, 2), 20);
            Due.is("8 five " + p, mill.now(3), 5);
            Due.is("8 seven are counted " + p, mill.strikes(1, 1) , 20);
            Due.is("8 lost " + p, mill.score(p), 7);
        }
        Due.is("8 over", mill.strikes(1, 1), STATE);
        Due.is("8 bad ahead of over", mill.strikes(1, 7), BAD);
        Due.is("8 no tee", new MillSails().strikes(0, 1), STATE);
        MillSails late = Due.told("w2;rfh;t0 0;n1;");
        for (int i = 0; i < 5; i++) {
            late.strikes(0, 1);
        }
        Due.is("8 in with the sixth", late.strikes(1, 1), IN);
        Due.is("8 six", late.score(0), 6);
        MillSails pond = Due.told("w2;rfp;t0 0;n1;");
        for (int i = 0; i < 5; i++) {
            pond.strikes(0, 1);
        }
        Due.is("8 seven strokes", pond.strikes(1, 6), POND);
        Due.is("8 lost with seven", pond.score(0), 7);
    }

    private static void waits() {
        MillSails mill = Due.told(MILL);
        Due.is("9 none", mill.waits(0), BAD);
        Due.is("9 below", mill.waits(MIN), BAD);
        Due.is("9 ten", mill.waits(10), BAD);
        Due.is("9 most", mill.waits(9), 9);
        Due.is("9 least", mill.waits(1), 10);
        Due.is("9 the tick", mill.now(0), 10);
        Due.is("9 shut, open", mill.now(4), 1);
        Due.is("9 known", mill.now(6), 2);
        Due.is("9 nobody is on", new MillSails().waits(4), 4);
        // An object serves 512 calls; what lies at the last tick is looked at all the same.
        MillSails old = Due.told("w2;rfp;t0 0;n1;");
        for (int i = 0; i < 11110; i++) {
            old.waits(9);
        }
        Due.is("9 near the end", old.now(0), 99990);
        Due.is("9 to the last tick", old.waits(9), 99999);
        Due.is("9 above it", old.waits(1), STATE);
        Due.is("9 bad ahead of it", old.waits(10), BAD);
        Due.is("8 above the last tick", old.strikes(1, 1), STATE);
        old.undo();
        old.waits(8);
        Due.is("8 above the last tick by one", old.strikes(0, 2), STATE);
        Due.is("8 earlier, in a pond", old.strikes(1, 6), POND);
        Due.is("8 at the last tick", old.now(0), 99999);
        Due.is("12 nothing is struck, so it may", old.would(0, 2), 0);
    }

    private static void boards() {
        MillSails mill = Due.told("w5;rffxph;rffmff;t0 0;");
        Due.is("10 set", mill.boards(1, 0, 1), 2);
        Due.is("10 set another", mill.boards(4, 1, 1), 3);
        Due.is("10 it is set", mill.boards(1, 0, 1), STATE);
        Due.is("10 take a told one", mill.boards(2, 0, 0), 2);
        Due.is("10 it is green", mill.cell(2, 0), 0);
        Due.is("10 none there", mill.boards(2, 0, 0), STATE);
        Due.is("10 set it again", mill.boards(2, 0, 1), 3);
        Due.is("10 the tee", mill.boards(0, 0, 1), STATE);
        Due.is("10 a pond", mill.boards(3, 0, 1), STATE);
        Due.is("10 the hole", mill.boards(4, 0, 1), STATE);
        Due.is("10 a mill", mill.boards(2, 1, 1), STATE);
        Due.is("10 no board on a mill", mill.boards(2, 1, 0), STATE);
        Due.is("10 is below", mill.boards(1, 1, -1), BAD);
        Due.is("10 is above", mill.boards(1, 1, 2), BAD);
        Due.is("10 x below", mill.boards(-1, 1, 1), BAD);
        Due.is("10 x above", mill.boards(5, 1, 1), BAD);
        Due.is("10 y below", mill.boards(1, -1, 1), BAD);
        Due.is("10 y above", mill.boards(1, 2, 1), BAD);
        mill.strikes(2, 1);
        Due.is("10 under the ball", mill.boards(0, 1, 1), STATE);
        Due.is("10 still the tee", mill.boards(0, 0, 1), STATE);
        Due.is("10 back from a board", mill.would(1, 6), 11);
        MillSails none = Due.told("w2;rff;");
        Due.is("10 no tee at all", none.boards(0, 0, 1), 1);
        Due.is("10 all of them", none.boards(1, 0, 1), 2);
        Due.is("10 taken", none.boards(0, 0, 0), 1);
    }

    private static void undo() {
        MillSails mill = Due.told("w3;rfhf;rfff;t0 0;n2;");
        Due.is("11 none", mill.undo(), STATE);
        mill.strikes(2, 1);
        mill.boards(2, 1, 1);
        mill.waits(4);
        mill.strikes(9, 9);
        mill.boards(2, 1, 1);
        mill.waits(0);
        Due.is("11 refused ones are not known", mill.now(6), 3);
        mill.strikes(0, 1);
        mill.strikes(1, 1);
        Due.is("11 done", mill.score(0), 3);
        Due.is("11 of five", mill.undo(), 4);
        Due.is("11 not done", mill.score(0), 0);
        Due.is("11 on again", mill.now(1), 0);
        Due.is("11 strokes again", mill.now(3), 2);
        Due.is("11 the ball again", mill.now(2), 0);
        Due.is("11 of four", mill.undo(), 3);
        Due.is("11 the ball below", mill.now(2), 10);
        Due.is("11 of three", mill.undo(), 2);
        Due.is("11 the tick", mill.now(0), 1);
        Due.is("11 of two", mill.undo(), 1);
        Due.is("11 the board", mill.cell(2, 1), 0);
        Due.is("11 the last", mill.undo(), 0);
        Due.is("11 none again", mill.undo(), STATE);
        Due.is("11 all as at first", mill.now(0) + mill.now(2) + mill.now(3), 0);
        mill.waits(1);
        mill.keep(0);
        mill.lay(0, 0);
        mill.rate(0, 0, 0);
        Due.is("11 no image is undone", mill.undo(), 0);
        Due.is("11 nothing that lay", mill.count(6), 1);
        Due.is("11 the image stays", mill.back(0), 1);
        Due.is("11 the trace goes on", mill.trace(), 1);
    }

    private static void undoTen() {
        MillSails mill = Due.told(LANE);
        for (int i = 1; i <= 12; i++) {
            mill.waits(1);
            Due.is("11 known " + i, mill.now(6), Math.min(10, i));
        }
        for (int i = 9; i >= 0; i--) {
            Due.is("11 undone to " + i, mill.undo(), i);
            Due.is("11 tick of " + i, mill.now(0), i + 2);
        }
        Due.is("11 older ones are lost", mill.undo(), STATE);
        MillSails over = Due.told("w2;rfh;t0 0;n1;");
        over.strikes(1, 1);
        Due.is("11 from over", over.undo(), 0);
        Due.is("11 on again", over.now(1), 0);
        Due.is("11 on the tee again", over.now(2), 0);
    }

    private static void would() {
        MillSails mill = Due.told("w4;rffpf;rfxfh;rffff;t0 0;");
        Due.is("12 lies", mill.would(1, 1), 1);
        Due.is("12 a pond", mill.would(1, 2), POND);
        Due.is("12 down and back", mill.would(2, 4), 10);
        Due.is("12 turned at once", mill.would(0, 3), 20);
        Due.is("12 nothing is changed", mill.now(0) + mill.now(3) + mill.now(6), 0);
        Due.is("12 in", Due.told(LANE).would(1, 3), IN);
        Due.is("12 way above", mill.would(4, 1), BAD);
        Due.is("12 hard below", mill.would(1, 0), BAD);
        Due.is("12 nobody", new MillSails().would(1, 1), STATE);
        Due.is("12 bad ahead", new MillSails().would(1, 7), BAD);
    }

    private static void when() {
        MillSails mill = Due.told("w4;rffmh;t0 0;s5 1;");
        // The mill is come to in the tick that is two behind the wait: 6 is the next open one.
        Due.is("13 four waits", mill.when(1, 3), 1 << 4);
        Due.is("13 one tick left", mill.when(1, 4), 1 << 4);
        Due.is("13 too weak", mill.when(1, 2), 0);
        mill.waits(3);
        Due.is("13 one wait", mill.when(1, 3), 1 << 1);
        Due.is("13 nothing is changed", mill.now(0), 3);
        Due.is("13 every wait", Due.told(LANE).when(1, 3), 7);
        Due.is("13 six waits", Due.told("w2;rfh;t0 0;s6 0;").when(1, 1), 63);
        Due.is("13 way below", mill.when(-1, 3), BAD);
        Due.is("13 hard above", mill.when(1, 7), BAD);
        Due.is("13 nobody", new MillSails().when(1, 1), STATE);
    }

    private static void home() {
        MillSails mill = Due.told("w4;rfffx;rfxff;rfffh;t0 0;");
        // Down to the corner and right; ahead of that: up, back from the edge, and down.
        Due.is("14 two strokes", mill.home(-1), 2);
        Due.is("14 the first", mill.home(0), 3);
        Due.is("14 the second", mill.home(1), 13);
        Due.is("14 not so many", mill.home(2), -5);
        Due.is("14 nor so many", mill.home(MAX), -5);
        Due.is("14 below", mill.home(-2), BAD);
        Due.is("14 far below", mill.home(MIN), BAD);
        Due.is("14 nobody", new MillSails().home(0), STATE);
        Due.is("14 bad ahead", new MillSails().home(-2), BAD);
        MillSails none = Due.told(WET);
        Due.is("14 none", none.home(-1), NONE);
        Due.is("14 none of them", none.home(0), NONE);
        Due.is("14 none far", none.home(MAX), NONE);
        for (int i = 0; i < 5; i++) {
            mill.strikes(0, 1);
        }
        Due.is("14 six do not matter", mill.home(-1), 2);
        Due.is("14 nothing is changed", mill.now(3), 5);
        Due.is("14 no hole", Due.told("w2;rff;t0 0;").home(-1), NONE);
        // Seven corners, one behind another.
        MillSails snake = Due.told("w7;rfffffff;rxxxxxxf;rfffffff;rfxxxxxx;rfffffff;rxxxxxxf;rhffffff;t0 0;");
        Due.is("14 a long way", snake.home(-1), 7);
        // Up is told ahead of down: turned back from the edge, or a board, it is one harder.
        int[] row = {16, 3, 36, 3, 16, 3, 36, -5};
        for (int k = 0; k < row.length; k++) {
            Due.is("14 the long way " + k, snake.home(k), row[k]);
        }
    }

    private static void homeThroughMills() {
        MillSails mill = Due.told(MILL);
        Due.is("14 one stroke", mill.home(-1), 1);
        // Left, turned back from the edge: the mill is open in tick 2.
        Due.is("14 without a wait", mill.home(0), 33);
        mill.waits(1);
        Due.is("14 at once", mill.home(0), 12);
        // The mill is open in tick 6 alone: left, back from the board, comes to it in the fifth tick.
        MillSails wait = Due.told("w7;rxffffmh;t1 0;s6 0;");
        Due.is("14 behind a wait", wait.home(0), 136);
        MillSails late = Due.told("w7;rffffffm;rxxxxxxh;t0 0;s6 1;");
        Due.is("14 a mill at the corner", late.home(-1), 2);
        Due.is("14 the mill is shut in tick 6", late.home(0), 116);
        Due.is("14 from the mill down", late.home(1), 2);
        // A corner and a mill: the ticks of the first stroke count for the second.
        MillSails two = Due.told("w3;rfff;rxxm;rxxh;t0 0;s3 2;");
        Due.is("14 two strokes", two.home(-1), 2);
        Due.is("14 the corner", two.home(0), 12);
        Due.is("14 two ticks are over", two.home(1), 24);
        two.waits(2);
        Due.is("14 the tick is another", two.home(1), 5);
    }

    private static void ones() {
        Due.is("15 no cells", new MillSails().ones(), 0);
        Due.is("15 no hole", Due.told("w2;rff;t0 0;").ones(), 0);
        Due.is("15 no tee", Due.told("w2;rfh;").ones(), 1);
        Due.is("15 a lane", Due.told(LANE).ones(), 6);
        Due.is("15 the column too", Due.told("w2;rff;rff;rhf;").ones(), 3);
        Due.is("15 a mill is not green", Due.told(MILL).ones(), 1);
        Due.is("15 nor a pond, nor behind it", Due.told("w5;rhfpff;").ones(), 1);
        // Six cells away is far enough, seven is not, there or round a corner.
        MillSails mill = Due.told("w7;rhffffff;rxxxxxxf;");
        Due.is("15 six away", mill.ones(), 6);
        mill.boards(2, 0, 1);
        Due.is("15 a board between", mill.ones(), 1);
        Due.is("15 back from the edge", Due.told("w4;rxffh;").ones(), 2);
    }

    private static void odds() {
        // Hard 3 and 4 are in, others not.
        MillSails mill = Due.told(LANE);
        int[][] due = {{2, 0, 0, 1}, {2, 1, 1, 10}, {2, 5, 1, 2}, {3, 0, 1, 1}, {3, 1, 9, 10}, {3, 2, 4, 5}, {3, 5, 1, 2},
            {4, 3, 7, 10}, {4, 4, 3, 5}, {5, 2, 1, 5}, {5, 4, 2, 5}, {1, 5, 0, 1}, {6, 5, 0, 1}};
        for (int[] row : due) {
            Due.is("16 upper of " + row[0] + " by " + row[1], mill.odds(1, row[0], row[1], 0), row[2]);
            Due.is("16 lower of " + row[0] + " by " + row[1], mill.odds(1, row[0], row[1], 1), row[3]);
        }
        MillSails near = Due.told("w2;rfh;t0 0;");
        Due.is("16 less than one is one", near.odds(1, 1, 4, 0) + near.odds(1, 1, 4, 1), 2);
        MillSails far = Due.told("w7;rfffffhf;t0 0;");
        Due.is("16 more than six is six", far.odds(1, 6, 5, 0) + far.odds(1, 6, 5, 1), 2);
        Due.is("16 now, not later", Due.told(MILL).odds(1, 2, 0, 0), 0);
        Due.is("16 x below", mill.odds(1, 1, -1, 0), BAD);
        Due.is("16 x above", mill.odds(1, 1, 6, 0), BAD);
        Due.is("16 what below", mill.odds(1, 1, 0, -1), BAD);
        Due.is("16 what above", mill.odds(1, 1, 0, 2), BAD);
        Due.is("16 way", mill.odds(4, 1, 0, 0), BAD);
        Due.is("16 hard", mill.odds(1, 0, 0, 0), BAD);
        Due.is("16 nobody", new MillSails().odds(1, 1, 0, 0), STATE);
        Due.is("16 bad ahead", new MillSails().odds(1, 1, 6, 0), BAD);
    }

    private static void lay() {
        MillSails mill = Due.told("w3;rfph;rfxf;t0 0;");
        Due.is("17 a cell", mill.lay(0, 0), 1);
        Due.is("17 in", mill.lay(-1, -1), 2);
        Due.is("17 the last cell", mill.lay(2, 1), 3);
        Due.is("17 the same again", mill.lay(2, 1), 4);
        int[][] bad = {{-1, 0}, {0, -1}, {3, 0}, {0, 2}, {-2, -2}, {MAX, MIN}};
        for (int[] one : bad) {
            Due.is("17 bad " + one[0] + " " + one[1], mill.lay(one[0], one[1]), BAD);
        }
        Due.is("17 any cell", mill.lay(1, 1), 5);
        Due.is("17 full", mill.lay(0, 0), FULL);
        Due.is("17 bad ahead of full", mill.lay(3, 0), BAD);
        Due.is("17 five", mill.count(6), 5);
        Due.is("17 no cells", new MillSails().lay(0, 0), BAD);
        Due.is("17 nobody is on", new MillSails().lay(-1, -1), 1);
        mill.strikes(2, 1);
        Due.is("17 a stroke leaves it", mill.count(6), 5);
    }

    private static void forget() {
        MillSails mill = Due.told(LANE);
        Due.is("18 nothing", mill.forget(), 0);
        mill.lay(1, 0);
        mill.lay(1, 0);
        Due.is("18 two", mill.forget(), 2);
        Due.is("18 nothing again", mill.forget(), 0);
        Due.is("18 all strokes again", mill.which(0), 24);
    }

    private static void which() {
        MillSails mill = Due.told("w4;rfffh;rpfff;t0 0;");
        Due.is("19 nothing lay", mill.which(0), 24);
        Due.is("19 the first of all", mill.which(1), 1);
        mill.lay(-1, -1);
        Due.is("19 in by two from the tee, one turned", mill.which(0), 4);
        Due.is("19 right three first", mill.which(1), 13);
        mill.lay(-1, -1);
        Due.is("19 the same twice", mill.which(0), 4);
        mill.lay(1, 0);
        Due.is("19 not both", mill.which(0), 0);
        Due.is("19 none first", mill.which(1), NONE);
        mill.forget();
        mill.lay(0, 0);
        // Up 1 stays, up 2 and more comes to the pond, down is the pond at once, left 1 stays.
        Due.is("19 where it was struck", mill.which(0), 13);
        Due.is("19 up one", mill.which(1), 1);
        mill.forget();
        mill.lay(2, 0);
        Due.is("19 right two", mill.which(1), 12);
        mill.forget();
        mill.lay(3, 1);
        Due.is("19 nowhere", mill.which(1), NONE);
        Due.is("19 below", mill.which(-1), BAD);
        Due.is("19 above", mill.which(2), BAD);
        Due.is("19 nobody", new MillSails().which(0), STATE);
        Due.is("19 bad ahead", new MillSails().which(2), BAD);
    }

    private static void best() {
        Due.is("20 no tee", new MillSails().best(), 14);
        Due.is("20 four without a tee", Due.told("n4;").best(), 28);
        MillSails mill = Due.told("w4;rfffx;rfxff;rfffh;t0 0;n3;");
        Due.is("20 two each", mill.best(), 6);
        mill.strikes(0, 1);
        Due.is("20 one is lost", mill.best(), 7);
        mill.strikes(2, 1);
        Due.is("20 from where it lies", mill.best(), 8);
        mill.strikes(2, 1);
        Due.is("20 on the way", mill.best(), 8);
        mill.strikes(1, 3);
        Due.is("20 one is done", mill.best(), 8);
        for (int i = 0; i < 5; i++) {
            mill.strikes(0, 1);
        }
        Due.is("20 above six it is seven", mill.best(), 4 + 7 + 2);
        Due.is("20 no way home", Due.told(WET).best(), 14);
        MillSails far = Due.told("w7;rfffffff;rxxxxxxf;rfffffff;rfxxxxxx;rfffffff;rxxxxxxf;rhffffff;t0 0;n1;");
        Due.is("20 seven strokes are seven", far.best(), 7);
    }

    private static void boardHelps() {
        MillSails mill = Due.told("w4;rfffx;rfxff;rfffh;t0 0;");
        Due.is("21 none helps", mill.board(0), NONE);
        MillSails shut = Due.told("w4;rfxfx;rxfxx;rfxxh;t0 0;");
        Due.is("21 none alone helps", shut.board(0), NONE);
        MillSails door = Due.told("w3;rfxx;rfxx;rfxh;t0 0;");
        Due.is("21 there is no way", door.home(-1), NONE);
        Due.is("21 one opens it", door.board(0), 21);
        MillSails several = Due.told("w3;rfxf;rfxf;rfxh;t0 0;");
        Due.is("21 of several the lowest y", several.board(0), 1);
        MillSails column = Due.told("w2;rfx;rff;rxx;rhx;t0 0;");
        Due.is("21 in a column", column.board(0), 20);
        MillSails row = Due.told("w4;rfxfh;t0 0;");
        Due.is("21 in a row", row.board(0), 1);
        row.boards(1, 0, 0);
        row.boards(2, 0, 1);
        Due.is("21 set ones too", row.board(0), 2);
        Due.is("21 nothing is changed", row.cell(2, 0), 1);
        Due.is("21 nothing is known of it", row.now(6), 2);
        Due.is("21 below", row.board(-1), BAD);
        Due.is("21 above", row.board(2), BAD);
        Due.is("21 nobody", new MillSails().board(0), STATE);
        Due.is("21 bad ahead", new MillSails().board(2), BAD);
    }

    private static void boardHarms() {
        MillSails lane = Due.told(LANE);
        Due.is("21 the first between", lane.board(1), 1);
        lane.strikes(1, 1);
        Due.is("21 between ball and hole", lane.board(1), 2);
        Due.is("21 nothing is changed", lane.cell(2, 0), 0);
        MillSails column = Due.told("w2;rfx;rfx;rfx;rhx;t0 0;");
        Due.is("21 the first between, down", column.board(1), 10);
        MillSails corner = Due.told("w3;rfff;rxxf;rxxh;t0 0;");
        Due.is("21 the first of both", corner.board(1), 1);
        corner.strikes(1, 2);
        Due.is("21 round the corner", corner.board(1), 12);
        MillSails next = Due.told("w3;rfhf;rfff;t0 0;");
        Due.is("21 none between", next.board(1), NONE);
        Due.is("21 no way now", Due.told(WET).board(1), NONE);
        // The bridge at 1 1 is the only way; a board on the straight way makes it only longer.
        MillSails bridge = Due.told("w3;rfff;rxfx;rffh;t0 0;");
        Due.is("21 none at all is longest", bridge.board(1), 1);
        // With a board at 1 0 three strokes go round; nothing else is as bad.
        MillSails round = Due.told("w3;rffh;rfff;t0 0;");
        Due.is("21 longer", round.board(1), 1);
        MillSails tee = Due.told("w5;rfffhf;t1 0;");
        tee.strikes(3, 1);
        Due.is("21 not the tee", tee.board(1), 2);
    }

    private static void rate() {
        MillSails mill = Due.told("w7;rfffffff;rfffffff;rffffffh;t1 1;s5 0;n2;");
        mill.strikes(0, 1);
        mill.strikes(1, 1);
        mill.waits(6);
        int[] due = {6, 8, 4, 16, 4, 9};
        long[] traces = {1, 12, 113, 1124, 11225, 111226};
        for (int kind = 0; kind <= 5; kind++) {
            Due.is("22 kind " + kind, mill.rate(kind, 6, 2), due[kind]);
            Due.is("26 behind kind " + kind, mill.trace(), traces[kind]);
        }
        Due.is("22 below nothing", mill.rate(2, 0, 0), -2);
        long trace = mill.trace();
        int[][] bad = {{-1, 0, 0}, {6, 0, 0}, {0, -1, 0}, {1, 7, 0}, {2, 0, -1}, {3, 0, 3}, {MIN, MAX, MIN}};
        for (int[] one : bad) {
            Due.is("22 bad " + one[0], mill.rate(one[0], one[1], one[2]), -1000000);
        }
        Due.is("22 bad ones leave no trace", mill.trace(), trace);
        Due.is("22 no cells", new MillSails().rate(0, 0, 0), MillSails.NO);
        MillSails second = Due.told("w3;rfhf;t0 0;n3;");
        second.strikes(1, 1);
        second.strikes(1, 1);
        second.strikes(0, 1);
        Due.is("22 who is on", second.rate(4, 2, 0), 2 - 1 + 2);
        MillSails nobody = Due.told("w3;rfhf;");
        Due.is("22 nobody is on", nobody.rate(4, 2, 0), 2);
    }

    private static void keep() {
        MillSails mill = Due.told(LANE);
        mill.waits(5);
        Due.is("23 the first", mill.keep(0), 5);
        mill.waits(1);
        Due.is("23 the second", mill.keep(1), 6);
        Due.is("23 nothing more to undo", mill.now(6), 2);
        Due.is("23 below", mill.keep(-1), BAD);
        Due.is("23 above", mill.keep(2), BAD);
        mill.waits(1);
        Due.is("23 another one there", mill.keep(0), 7);
        Due.is("23 it is", mill.back(0), 7);
        Due.is("23 the second stays", mill.back(1), 6);
        Due.is("23 no cells", new MillSails().keep(0), 0);
    }

    private static void back() {
        MillSails mill = Due.told("w4;rffxf;rfffh;t0 0;n3;");
        Due.is("24 none", mill.back(0), STATE);
        Due.is("24 below", mill.back(-1), BAD);
        Due.is("24 above", mill.back(2), BAD);
        mill.strikes(2, 1);
        mill.strikes(1, 3);
        mill.strikes(1, 1);
        mill.boards(3, 0, 1);
        Due.is("24 keep", mill.keep(1), 5);
        Due.is("24 none in the other", mill.back(0), STATE);
        mill.lay(0, 0);
        mill.boards(2, 0, 0);
        mill.strikes(2, 1);
        mill.strikes(1, 2);
        mill.waits(9);
        mill.rate(0, 0, 0);
        Due.is("24 done by two", mill.score(1), 3);
        Due.is("24 back", mill.back(1), 5);
        int[] now = {5, 1, 1, 1, 0, 0, 0};
        for (int what = 0; what < now.length; what++) {
            Due.is("24 now " + what, mill.now(what), now[what]);
        }
        Due.is("24 the first is done", mill.score(0), 2);
        Due.is("24 the second is not", mill.score(1), 0);
        Due.is("24 a board was set", mill.cell(3, 0), 1);
        Due.is("24 a board was there", mill.cell(2, 0), 1);
        Due.is("24 what lay stays", mill.count(6), 1);
        Due.is("24 the trace goes on", mill.trace(), 1);
        Due.is("24 nothing can be undone", mill.undo(), STATE);
        mill.waits(1);
        mill.undo();
        Due.is("24 once more", mill.back(1), 5);
        mill.strikes(0, 1);
        Due.is("24 the image is not what is played on", mill.back(1), 5);
        Due.is("24 strokes of the image", mill.now(3), 1);
    }

    private static void count() {
        MillSails mill = Due.told("w4;rffxf;rfffh;t3 0;s4 1;n3;");
        mill.lay(0, 0);
        mill.type('w');
        int[] due = {4, 2, 4, 1, 3, 3, 1, 1};
        for (int what = 0; what < due.length; what++) {
            Due.is("25 count " + what, mill.count(what), due[what]);
        }
        Due.is("25 below", mill.count(-1), BAD);
        Due.is("25 above", mill.count(8), BAD);
        Due.is("25 far", mill.count(MIN), BAD);
        mill.strikes(3, 1);
        Due.is("25 the tee stays", mill.count(5), 3);
    }

    private static void trace() {
        MillSails mill = Due.told(LANE);
        Due.is("26 at first", mill.trace(), 0);
        for (int i = 0; i < 30; i++) {
            mill.rate(5, 0, 0);
        }
        Due.is("26 thirty pipes", mill.trace(), 3000030L);
        mill.home(0);
        mill.best();
        Due.is("26 rate() alone adds", mill.trace(), 3000030L);
    }

    private static void nobodyIsOn() {
        MillSails mill = Due.told("w3;rfhf;rfff;t0 0;n1;");
        mill.strikes(1, 1);
        Due.is("7 over", mill.now(1), NONE);
        Due.is("12 over", mill.would(1, 1), STATE);
        Due.is("13 over", mill.when(1, 1), STATE);
        Due.is("14 over", mill.home(-1), STATE);
        Due.is("15 over", mill.ones(), 3);
        Due.is("16 over", mill.odds(1, 1, 0, 0), STATE);
        Due.is("17 over", mill.lay(0, 0), 1);
        Due.is("19 over", mill.which(0), STATE);
        Due.is("20 over", mill.best(), 1);
        Due.is("21 over", mill.board(1), STATE);
        Due.is("10 over", mill.boards(1, 1, 1), 1);
        Due.is("10 the tee, over", mill.boards(0, 0, 1), STATE);
        Due.is("9 over", mill.waits(2), 3);
        Due.is("22 over", mill.rate(4, 2, 0), 2);
        Due.is("23 over", mill.keep(0), 3);
        Due.is("11 back to the board", mill.undo(), 2);
        mill.undo();
        Due.is("11 on again", mill.undo(), 0);
        Due.is("11 not done", mill.score(0), 0);
        Due.is("24 over again", mill.back(0), 3);
        Due.is("24 nobody is on", mill.now(1), NONE);
        Due.is("24 done", mill.score(0), 1);
    }
}
