/** Section 3 and promises 12 to 16: what a stroke would do, and the way home. */
final class StrokeEdges {
    /** The hole three CELLS right of the TEE, all green; one player. */
    private static final String LANE = "w7;rfffhfff;t0 0;n1;";
    /** A mill, open in each tick of which five are left over by six, and the hole behind it. */
    private static final String SAILS = "w4;rfmhf;t0 0;s6 5;";
    /** No CELL beside the TEE but one, a snake of corridors; the hole is put where it is asked for. */
    private static final String SNAKE = "w7;rfffffff;rxxxxxxf;rfffffff;rfxxxxxx;rfffffff;rxxxxxxf;";

    private StrokeEdges() {
    }

    static void all() {
        nothingIsChanged();
        would();
        when();
        home();
        homeThroughMills();
        ones();
        odds();
    }

    /** Of way and hard: both may be as told and not beyond; nobody on is STATE, behind BAD. */
    private static void strokeIsAsked(String call, StrokeAsked asked) {
        Edges.boundsOn(call + " way", Edges::busy, (mill, way) -> asked.of(mill, way, 1), 0, 3, Edges.BAD);
        Edges.boundsOn(call + " hard", Edges::busy, (mill, hard) -> asked.of(mill, 1, hard), 1, 6, Edges.BAD);
        Edges.refusedWithNobodyOn(call + " 0 1", mill -> asked.of(mill, 0, 1));
        Edges.refusedWithNobodyOn(call + " 3 6", mill -> asked.of(mill, 3, 6));
        Edges.refusedOfAll(call + " 4 1", mill -> asked.of(mill, 4, 1), Edges.BAD);
        Edges.refusedOfAll(call + " 0 7", mill -> asked.of(mill, 0, 7), Edges.BAD);
        Edges.changesNothing(call + " 1 1", Edges::busy, mill -> asked.of(mill, 1, 1));
        Edges.changesNothing(call + " 3 6", Edges::busy, mill -> asked.of(mill, 3, 6));
    }

    private interface StrokeAsked {
        long of(MillSails mill, int way, int hard);
    }

    private static MillSails waited(String text, int ticks) {
        MillSails mill = Due.told(text);
        for (int left = ticks; left > 0; left -= 9) {
            mill.waits(Math.min(9, left));
        }
        return mill;
    }

    private static void nothingIsChanged() {
        Edges.sentence(12, "(As things are NOW, for the ball of who is on; nothing is changed.)", () -> {
            Edges.changesNothing("all that is asked", Edges::busy, StrokeEdges::askAll);
            Edges.changesNothing("all that is asked of a new object", MillSails::new, StrokeEdges::askAll);
            Edges.changesNothing("all that is asked when it is over", Edges::over, StrokeEdges::askAll);
            Edges.changesNothing("all that is asked without a TEE", Edges::noTee, StrokeEdges::askAll);
        });
    }

    private static long askAll(MillSails mill) {
        long sum = mill.ones() + mill.best() + mill.home(-1) + mill.home(0);
        sum += mill.which(0) + mill.which(1) + mill.board(0) + mill.board(1);
        for (int way = 0; way <= 3; way++) {
            for (int hard = 1; hard <= 6; hard++) {
                sum += mill.would(way, hard) + mill.when(way, hard) + mill.odds(way, hard, 2, 0);
            }
        }
        return sum;
    }

    private static void would() {
        Edges.sentence(12, "WOULD: where a STROKE would leave the ball (10 times y and x; -5: IN; -6: a pond).", () -> {
            for (int way = 0; way <= 3; way++) {
                for (int hard = 1; hard <= 6; hard++) {
                    Due.is("would as struck " + way + " " + hard, Edges.busy().would(way, hard), Edges.busy().strikes(way, hard));
                }
            }
            MillSails corner = Due.told("w7;" + "rfffffff;".repeat(7) + "t6 5;");
            Due.is("the last CELL", corner.would(2, 1), 66);
            MillSails wet = Due.told("w4;rfpfh;t2 0;");
            Due.is("in", wet.would(1, 1), Edges.IN);
            Due.is("a pond", wet.would(3, 1), Edges.SUNK);
            Due.is("five STROKES: the sixth is shown where it lies", fiveStruck().would(1, 1), 1);
        });
        Edges.sentence(12, "WOULD. BAD; STATE: nobody is on.", () -> strokeIsAsked("would", MillSails::would));
    }

    private static MillSails fiveStruck() {
        MillSails mill = Due.told("w3;rfff;t0 0;n2;");
        for (int n = 0; n < 5; n++) {
            mill.strikes(0, 1);
        }
        return mill;
    }

    private static void when() {
        Edges.sentence(13, "WHEN: for a STROKE: waits 0 .. TURN less 1 (bits) by which it would be IN.", () -> {
            for (int turn = 2; turn <= 6; turn++) {
                MillSails lane = Due.told("w2;rfh;t0 0;s" + turn + " 0;");
                Due.is("no mill: TURN " + turn + " waits", lane.when(1, 1), (1 << turn) - 1);
                Due.is("not in: none", lane.when(0, 1), 0);
            }
            Edges.row("right, by hard", hard -> Due.told(SAILS).when(1, hard), 1, 0, 16, 16, 4, 20, 17);
            Edges.row("left, by hard", hard -> Due.told(SAILS).when(3, hard), 1, 0, 0, 8);
            int[] due = {16, 8, 4, 2, 1, 32, 16, 8};
            for (int tick = 0; tick < due.length; tick++) {
                Due.is("right two, in tick " + tick, waited(SAILS, tick).when(1, 2), due[tick]);
            }
        });
        Edges.sentence(13, "WHEN, as bits. BAD; STATE: nobody is on.", () -> strokeIsAsked("when", MillSails::when));
    }

    /** How many, each of them, and -5 behind the last. */
    private static void wayHome(String what, MillSails mill, int... strokes) {
        Due.is(what + ": how many", mill.home(-1), strokes.length);
        for (int k = 0; k < strokes.length; k++) {
            Due.is(what + ": " + k, mill.home(k), strokes[k]);
        }
        for (int beyond : new int[] {strokes.length, strokes.length + 1, 100, Edges.MAX}) {
            Due.is(what + ": " + beyond, mill.home(beyond), -5);
        }
    }

    private static void home() {
        Edges.sentence(14, "WAY HOME: how many (k = -1), the k-th (-5); NONE. BAD (below -1); STATE: nobody is on.", () -> {
            Edges.refusedOfAll("home(-2)", mill -> mill.home(-2), Edges.BAD);
            Edges.refusedOfAll("home(MIN)", mill -> mill.home(Edges.MIN), Edges.BAD);
            for (int k : new int[] {-1, 0, 1, Edges.MAX}) {
                Edges.refusedWithNobodyOn("home(" + k + ")", mill -> mill.home(k));
                Edges.changesNothing("home(" + k + ")", Edges::busy, mill -> mill.home(k));
                Due.is("no way, home(" + k + ")", Due.told("w3;rfxh;t0 0;").home(k), Edges.NONE);
                Due.is("no hole, home(" + k + ")", Due.told("w3;rfff;t0 0;").home(k), Edges.NONE);
            }
            wayHome("one", Due.told(LANE), 13);
            wayHome("two", Due.told("w3;rfff;rxxf;rxxh;t0 0;"), 12, 3);
        });
        Edges.sentence(14, "that of fewest STROKES counted, of several the first (STROKE by STROKE: 100 times the wait, 10 times WAY, and HARD)", () -> {
            wayHome("right by three or four", Due.told(LANE), 13);
            wayHome("down by one, but up and back is first", Due.told("w2;rff;rhf;t0 0;"), 2);
            wayHome("up by one is first of all", Due.told("w2;rhf;rff;t0 1;"), 1);
            wayHome("right ahead of left", Due.told("w3;rfhf;t0 0;"), 11);
            wayHome("left, back from the edge, is behind right", Due.told("w2;rfh;t0 0;"), 11);
            wayHome("left by one, but right and back is first", Due.told("w2;rhf;t1 0;"), 12);
            wayHome("two ways round: down, back from the edge up is first", Due.told("w2;rff;rfh;t0 0;"), 2, 11);
        });
        Edges.sentence(14, "(However many there were; 6 do not matter.)", () -> {
            Due.is("five", Due.told(SNAKE.substring(0, 39) + "rffffffh;t0 0;").home(-1), 5);
            wayHome("six", Due.told(SNAKE + "rxxxxxxh;t0 0;"), 16, 3, 36, 3, 16, 3);
            wayHome("seven", Due.told(SNAKE + "rhffffff;t0 0;"), 16, 3, 36, 3, 16, 3, 36);
            MillSails struck = Due.told(SNAKE + "rhffffff;t0 0;");
            for (int n = 0; n < 5; n++) {
                struck.strikes(0, 1);
            }
            wayHome("seven behind five", struck, 16, 3, 36, 3, 16, 3, 36);
        });
    }

    private static void homeThroughMills() {
        Edges.sentence(14, "each behind a wait of 0 .. TURN less 1 ticks, by which the ball is IN", () -> {
            int[] first = {16, 35, 14, 33, 12, 116};
            for (int tick = 0; tick < 6; tick++) {
                wayHome("in tick " + tick, waited(SAILS, tick), first[tick]);
            }
            // The ticks of the first stroke count for the second: a mill between corner and hole.
            int[] second = {5, 3, 24};
            for (int open = 0; open < 3; open++) {
                MillSails mill = Due.told("w3;rfff;rxxm;rxxh;t0 0;s3 " + open + ";");
                wayHome("the corner, OPEN " + open, mill, 12, second[open]);
            }
            // Right by six is the only stroke that can be in, and comes to the mill in its fifth tick.
            for (int turn = 2; turn <= 6; turn++) {
                for (int open = 0; open < turn; open++) {
                    MillSails mill = Due.told("w7;rfffffmh;t0 0;s" + turn + " " + open + ";");
                    int wait = Math.floorMod(open - 5, turn);
                    wayHome("TURN " + turn + ", OPEN " + open, mill, 100 * wait + 16);
                    Due.is("TURN " + turn + ", OPEN " + open + ": bits", mill.when(1, 6), 1 << wait);
                }
            }
        });
    }

    private static void ones() {
        Edges.sentence(15, "ONES: how many green CELLS there are from which one STROKE, behind some wait, would be IN.", () -> {
            Due.is("no CELLS", new MillSails().ones(), 0);
            Due.is("no HOLE", Due.told("w7;" + "rfffffff;".repeat(7) + "t0 0;").ones(), 0);
            Due.is("no TEE", Edges.noTee().ones(), 2);
            Due.is("when it is over", Edges.over().ones(), 2);
            Due.is("six away, not seven", Due.told("w7;rhffffff;").ones(), 6);
            Due.is("the first CELL and the last of a row", Due.told("w7;rfffhfff;").ones(), 6);
            Due.is("row and column", Due.told("w7;" + "rfffffff;".repeat(6) + "rffffffh;").ones(), 12);
            Due.is("all but the hole", Due.told("w2;rhf;").ones(), 1);
            Due.is("the board's CELL is not green", Due.told("w3;rhfx;").ones(), 1);
            Due.is("nor behind it", Due.told("w4;rhfxf;").ones(), 1);
            MillSails taken = Due.told("w4;rhfxf;");
            taken.boards(2, 0, 0);
            Due.is("taken, it is green", taken.ones(), 3);
            taken.boards(1, 0, 1);
            Due.is("and a board that is set is not", taken.ones(), 0);
            Due.is("a pond is not", Due.told("w4;rhfpf;").ones(), 1);
            Due.is("a mill is not", Due.told("w2;rhm;").ones(), 0);
            Due.is("under the ball it is, and on the TEE", Due.told("w2;rhf;t1 0;").ones(), 1);
            Due.is("behind a mill, in its tick", Due.told("w3;rhmf;s6 5;").ones(), 1);
            Due.is("in another tick as well", waited("w3;rhmf;s6 5;", 5).ones(), 1);
            Edges.changesNothing("ones", Edges::busy, MillSails::ones);
            Edges.changesNothing("ones without a TEE", Edges::noTee, MillSails::ones);
        });
        Edges.sentence(15, "behind some wait", () -> {
            // From the first CELL right by six alone, and behind one wait alone, can be in.
            for (int turn = 2; turn <= 6; turn++) {
                for (int open = 0; open < turn; open++) {
                    MillSails mill = Due.told("w7;rfffffmh;s" + turn + " " + open + ";");
                    Due.is("TURN " + turn + ", OPEN " + open, mill.ones(), 5);
                }
            }
        });
    }

    private static void fraction(MillSails mill, int hard, int x, int upper, int lower) {
        Due.is("upper of right " + hard + " by " + x, mill.odds(1, hard, x, 0), upper);
        Due.is("lower of right " + hard + " by " + x, mill.odds(1, hard, x, 1), lower);
    }

    private static void odds() {
        Edges.sentence(16, "ODDS of a STROKE by x (0 .. 5): it is one HARDER by x of 10", () -> {
            int[][] twoIn = {{0, 1}, {1, 10}, {1, 5}, {3, 10}, {2, 5}, {1, 2}};
            int[][] threeIn = {{1, 1}, {9, 10}, {4, 5}, {7, 10}, {3, 5}, {1, 2}};
            MillSails mill = Due.told(LANE);
            for (int x = 0; x <= 5; x++) {
                fraction(mill, 1, x, 0, 1);
                fraction(mill, 2, x, twoIn[x][0], twoIn[x][1]);
                fraction(mill, 3, x, threeIn[x][0], threeIn[x][1]);
                fraction(mill, 4, x, threeIn[x][0], threeIn[x][1]);
                fraction(mill, 5, x, twoIn[x][0], twoIn[x][1]);
                fraction(mill, 6, x, 0, 1);
            }
            Edges.boundsOn("x", Edges::busy, (one, x) -> one.odds(1, 1, x, 0), 0, 5, Edges.BAD);
        });
        Edges.sentence(16, "(7: as 6), one less by x of 10 (0: as 1)", () -> {
            MillSails near = Due.told("w2;rfh;t0 0;");
            MillSails five = Due.told("w7;rfffffhf;t0 0;");
            MillSails six = Due.told("w7;rffffffh;t0 0;");
            MillSails two = Due.told("w4;rffhf;t0 0;");
            int[][] harderIs = {{0, 1}, {1, 10}, {1, 5}, {3, 10}, {2, 5}, {1, 2}};
            int[][] lessIsNot = {{1, 1}, {9, 10}, {4, 5}, {7, 10}, {3, 5}, {1, 2}};
            for (int x = 0; x <= 5; x++) {
                fraction(near, 1, x, 1, 1);
                fraction(two, 1, x, harderIs[x][0], harderIs[x][1]);
                fraction(five, 6, x, 1, 1);
                fraction(five, 5, x, lessIsNot[x][0], lessIsNot[x][1]);
                fraction(six, 6, x, lessIsNot[x][0], lessIsNot[x][1]);
            }
        });
        Edges.sentence(16, "upper (what = 0), lower number (1), in least terms. BAD; STATE: nobody is on.", () -> {
            Edges.boundsOn("what", Edges::busy, (mill, what) -> mill.odds(1, 1, 0, what), 0, 1, Edges.BAD);
            for (int what = 0; what <= 1; what++) {
                int asked = what;
                strokeIsAsked("odds " + what, (mill, way, hard) -> mill.odds(way, hard, 5, asked));
            }
            Edges.refusedOfAll("x is bad", mill -> mill.odds(1, 1, 6, 0), Edges.BAD);
            Edges.refusedOfAll("what is bad", mill -> mill.odds(1, 1, 0, 2), Edges.BAD);
            Due.is("nothing in: 0", Due.told("w2;rff;t0 0;").odds(1, 1, 3, 0), 0);
            Due.is("of 1", Due.told("w2;rff;t0 0;").odds(1, 1, 3, 1), 1);
            fraction(waited("w3;rfmh;t0 0;s2 1;", 0), 2, 0, 1, 1);
            fraction(waited("w3;rfmh;t0 0;s2 1;", 1), 2, 0, 0, 1);
        });
    }
}
