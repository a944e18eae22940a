/** Sections 3 and 4, promises 17 to 26: where it lay, players, boards, kinds, images. */
final class RestEdges {
    private static final String LANE = "w7;rfffhfff;t0 0;n1;";
    /** Five strokes lead home, of which the last ends in the hole at the right end of ROW 4. */
    private static final String FIVE = "w7;rfffffff;rxxxxxxf;rfffffff;rfxxxxxx;rffffffh;";
    private static final int[] BY_KIND = {1, 11, 101, 1011, 10101, 100001};

    private RestEdges() {
    }

    static void all() {
        lay();
        forget();
        which();
        best();
        helps();
        harms();
        rate();
        keep();
        back();
        count();
        trace();
    }

    private static void lay() {
        Edges.sentence(17, "LAY (5 at most)", () -> {
            MillSails mill = Due.told(LANE);
            for (int n = 1; n <= 5; n++) {
                Due.is("lay " + n, mill.lay(n, 0), n);
            }
            Due.is("a sixth", mill.lay(0, 0), Edges.FULL);
            Due.is("five", mill.count(6), 5);
            Edges.refused("a sixth CELL", RestEdges::fiveLay, one -> one.lay(0, 0), Edges.FULL);
            Edges.refused("a sixth, IN", RestEdges::fiveLay, one -> one.lay(-1, -1), Edges.FULL);
            Edges.refused("bad ahead of full", RestEdges::fiveLay, one -> one.lay(5, 0), Edges.BAD);
            Edges.refused("bad ahead of full, half of IN", RestEdges::fiveLay, one -> one.lay(-1, 0), Edges.BAD);
        });
        Edges.sentence(17, "LAY: how much there is (x = -1, y = -1: IN). BAD; FULL.", () -> {
            Edges.boundsOn("x", Edges::busy, (mill, x) -> mill.lay(x, 0), 0, 4, Edges.BAD);
            Edges.boundsOn("y", Edges::busy, (mill, y) -> mill.lay(0, y), 0, 3, Edges.BAD);
            Edges.boundsOn("both", Edges::busy, (mill, n) -> mill.lay(n, n), -1, 3, Edges.BAD);
            Edges.refused("half of IN", Edges::busy, mill -> mill.lay(0, -1), Edges.BAD);
            Edges.refused("half and beyond", Edges::busy, mill -> mill.lay(-1, -2), Edges.BAD);
            Edges.refused("no CELLS", MillSails::new, mill -> mill.lay(0, 0), Edges.BAD);
            Due.is("in, no CELLS", new MillSails().lay(-1, -1), 1);
            Due.is("in, over", Edges.over().lay(-1, -1), 2);
            Due.is("a board's CELL", Edges.busy().lay(0, 3), 3);
            Due.is("a pond's CELL", Edges.busy().lay(3, 1), 3);
        });
    }

    private static MillSails fiveLay() {
        MillSails mill = Edges.busy();
        mill.lay(1, 0);
        mill.lay(1, 0);
        mill.lay(-1, -1);
        return mill;
    }

    private static void forget() {
        Edges.sentence(18, "Nothing LAY: how much there was.", () -> {
            Due.is("nothing", new MillSails().forget(), 0);
            Due.is("two", Edges.busy().forget(), 2);
            MillSails five = fiveLay();
            Due.is("five", five.forget(), 5);
            Due.is("nothing then", five.forget(), 0);
            Due.is("one again", five.lay(0, 0), 1);
            Edges.same("nothing else is changed", Shown.of(() -> {
                MillSails mill = fiveLay();
                mill.forget();
                mill.lay(0, 2);
                mill.lay(-1, -1);
                return mill;
            }), Shown.of(Edges::busy));
        });
    }

    private static void whichDue(String what, MillSails mill, int count, int first) {
        Due.is(what + ": how many", mill.which(0), count);
        Due.is(what + ": the first", mill.which(1), first);
    }

    private static MillSails layOn(String text, int... places) {
        MillSails mill = Due.told(text);
        for (int place : places) {
            mill.lay(place < 0 ? -1 : place % 10, place < 0 ? -1 : place / 10);
        }
        return mill;
    }

    private static void which() {
        Edges.sentence(19, "WHICH: how many STROKES (24 there are) there are by each of which, struck NOW, all that LAY is so; the first (10 times WAY and HARD); NONE.", () -> {
            String text = "w2;rfh;t0 0;";
            whichDue("nothing lay", layOn(text), 24, 1);
            whichDue("where it is", layOn(text, 0), 17, 1);
            whichDue("in", layOn(text, -1), 7, 11);
            whichDue("in the hole's CELL, but not in", layOn(text, 1), 0, Edges.NONE);
            whichDue("the same twice", layOn(text, -1, -1), 7, 11);
            whichDue("in and not", layOn(text, -1, 0), 0, Edges.NONE);
            whichDue("five times", layOn(text, 0, 0, 0, 0, 0), 17, 1);
            whichDue("the fifth is another", layOn(text, 0, 0, 0, 0, -1), 0, Edges.NONE);
            whichDue("the last STROKE of all", layOn("w7;rfffffff;t6 0;", 0), 1, 36);
            MillSails mill = Due.told("w3;rfmf;t0 0;s6 1;");
            mill.lay(1, 0);
            whichDue("struck NOW", mill, 1, 11);
            mill.waits(1);
            whichDue("a tick later, left and back", mill, 1, 36);
            mill.waits(1);
            whichDue("two ticks later, right once more", mill, 1, 15);
        });
        Edges.sentence(19, "(of a pond: where it was struck)", () -> {
            String text = "w3;rpfh;t1 0;";
            whichDue("where it was struck", layOn(text, 1), 22, 1);
            whichDue("in the pond's CELL it does not lie", layOn(text, 0), 0, Edges.NONE);
            whichDue("in", layOn(text, -1), 2, 11);
        });
        Edges.sentence(19, "WHICH: how many (what = 0), the first (1; NONE). BAD; STATE: nobody is on.", () -> {
            Edges.boundsOn("what", Edges::busy, MillSails::which, 0, 1, Edges.BAD);
            Edges.refusedWithNobodyOn("which(0)", mill -> mill.which(0));
            Edges.refusedWithNobodyOn("which(1)", mill -> mill.which(1));
            Edges.refusedOfAll("which(2)", mill -> mill.which(2), Edges.BAD);
            Edges.refusedOfAll("which(-1)", mill -> mill.which(-1), Edges.BAD);
            Edges.changesNothing("which(0)", Edges::busy, mill -> mill.which(0));
            Edges.changesNothing("which(1)", Edges::busy, mill -> mill.which(1));
        });
    }

    private static void best() {
        Edges.sentence(20, "above 6, and where there is none, 7 each", () -> {
            int[] due = {5, 6, 7, 7, 7, 7, 7};
            for (int players = 1; players <= 4; players++) {
                MillSails mill = Due.told(FIVE + "t0 0;n" + players + ";");
                for (int struck = 0; struck <= 6; struck++) {
                    Due.is(players + " PLAYERS, one struck " + struck, mill.best(), due[struck] + 5 * (players - 1));
                    mill.strikes(0, 1);
                }
                Due.is("no way at all", Due.told("w3;rfxh;t0 0;n" + players + ";").best(), 7 * players);
                Due.is("no TEE", Due.told("n" + players + ";").best(), 7 * players);
            }
            String six = "w7;rfffffff;rxxxxxxf;rfffffff;rfxxxxxx;rfffffff;rxxxxxxf;rxxxxxxh;t0 0;";
            String seven = "w7;rfffffff;rxxxxxxf;rfffffff;rfxxxxxx;rfffffff;rxxxxxxf;rhffffff;t0 0;";
            Due.is("six from the TEE", Due.told(six).best(), 12);
            Due.is("seven from the TEE", Due.told(seven).best(), 14);
        });
        Edges.sentence(20, "the sum of all SCORES, if all who are not done need as few as can be from NOW on", () -> {
            MillSails mill = Due.told("w4;rffhf;rffff;t0 1;n3;");
            Due.is("two each", mill.best(), 6);
            mill.strikes(0, 1);
            Due.is("on the way", mill.best(), 6);
            mill.strikes(3, 1);
            Due.is("one lost", mill.best(), 7);
            mill.strikes(1, 2);
            Due.is("done by three", mill.best(), 7);
            mill.boards(1, 1, 1);
            mill.boards(0, 0, 1);
            Due.is("shut in: seven each", mill.best(), 3 + 7 + 7);
            mill.boards(0, 0, 0);
            Due.is("one way is left", mill.best(), 3 + 2 + 2);
            MillSails atOnce = Due.told("w3;rffh;t0 0;n2;");
            atOnce.strikes(1, 2);
            atOnce.boards(1, 0, 1);
            Due.is("who is done stays so, the other is shut in", atOnce.best(), 1 + 7);
            Due.is("over: what they needed", Edges.over().best(), 1 + 2);
            Due.is("a new object", new MillSails().best(), 14);
            Edges.changesNothing("best", Edges::busy, MillSails::best);
            Edges.changesNothing("best when it is over", Edges::over, MillSails::best);
        });
    }

    private static void board(String text, int what, int due) {
        Due.is("board(" + what + ") of " + text, Due.told(text).board(what), due);
    }

    private static void helps() {
        Edges.sentence(21, "HELP: the board whose taking away leaves the WAY HOME fewest, if fewer than NOW, of several the lowest y, then x (10 times y and x; none NOW is more than any); NONE.", () -> {
            board("w2;rfh;t0 0;", 0, Edges.NONE);
            board("w3;rfhx;rxxx;t0 0;", 0, Edges.NONE);
            board("w4;rfxxh;t0 0;", 0, Edges.NONE);
            board("w3;rfff;t0 0;", 0, Edges.NONE);
            board("w3;rfxh;t0 0;", 0, 1);
            board("w3;rffx;rxxf;rffh;t0 0;", 0, 2);
            board("w3;rffp;rxxf;rffh;t0 0;", 0, 10);
            board("w3;rhff;rfxx;rpff;t2 2;", 0, 12);
            board("w2;rfx;rfh;t0 0;", 0, Edges.NONE);
            board("w3;rfxh;rfff;t0 0;", 0, 1);
            board("w3;rhxf;t2 0;", 0, 1);
            board("w2;rfp;rxp;rhp;t0 0;", 0, 10);
            board("w2;rhp;rxp;rfp;t0 2;", 0, 10);
            board("w7;" + "rppppppf;".repeat(5) + "rpppppxx;rpppppxh;t6 0;", 0, 56);
        });
        Edges.sentence(21, "HELP (what = 0), HARM (1); NONE. BAD; STATE: nobody is on.", () -> {
            Edges.boundsOn("what", Edges::busy, MillSails::board, 0, 1, Edges.BAD);
            for (int what = 0; what <= 1; what++) {
                int asked = what;
                Edges.refusedWithNobodyOn("board " + what, mill -> mill.board(asked));
                Edges.changesNothing("board " + what, Edges::busy, mill -> mill.board(asked));
            }
            Edges.refusedOfAll("board(2)", mill -> mill.board(2), Edges.BAD);
            Edges.refusedOfAll("board(-1)", mill -> mill.board(-1), Edges.BAD);
        });
    }

    private static void harms() {
        Edges.sentence(21, "HARM: the green CELL (not the TEE, nor under the ball) at which a board more makes the WAY HOME longest (none at all is longest), if longer than NOW, of several the lowest y, then x; NONE.", () -> {
            board("w2;rfh;t0 0;", 1, Edges.NONE);
            board("w3;rfhf;rfff;t0 0;", 1, Edges.NONE);
            board("w3;rfxh;rfxf;t0 0;", 1, Edges.NONE);
            board(LANE, 1, 1);
            board("w3;rffh;rfff;t0 0;", 1, 1);
            board("w3;rfff;rxxf;rxxh;t0 0;", 1, 1);
            board("w4;rfffx;rfxfh;rfffx;t0 0;", 1, 12);
            board("w2;rfx;rfx;rhx;t0 0;", 1, 10);
            board("w2;rhx;rfx;rfx;t0 2;", 1, 10);
            board("w3;rhff;t2 0;", 1, 1);
            board("w7;" + "rxxxxxxf;".repeat(6) + "rxxxxxxh;t6 0;", 1, 16);
            board("w7;rhffffff;t6 0;", 1, 1);
            MillSails ball = Due.told("w5;rfffhf;t1 0;");
            ball.strikes(3, 1);
            Due.is("the TEE between, which can not be", ball.board(1), 2);
            MillSails under = Due.told("w4;rfffh;t0 0;");
            under.strikes(1, 1);
            Due.is("not under the ball", under.board(1), 2);
            under.strikes(1, 1);
            Due.is("nothing between", under.board(1), Edges.NONE);
            MillSails mill = Due.told("w3;rfmh;t0 0;");
            Due.is("a mill is not green", mill.board(1), Edges.NONE);
        });
    }

    private static void rate() {
        Edges.sentence(22, "CELL its x (1). BOARD up, and its y (10). POND up less STROKES (100). MILL twice up (1000). LEAF up, and who is on (0, if nobody is) (10000). PIPE up, and what is left over of THE TICK by TURN (100000).", () -> {
            MillSails mill = Edges.busy();
            Edges.row("busy rate of 3 2, kind", kind -> mill.rate(kind, 3, 2), 0, 3, 5, 1, 10, 2, 5);
            Edges.row("busy rate of 0 0, kind", kind -> mill.rate(kind, 0, 0), 0, 0, 0, -2, 0, -1, 2);
            MillSails over = Edges.over();
            Edges.row("over rate of 2 1, kind", kind -> over.rate(kind, 2, 1), 0, 2, 3, 2, 6, 2, 4);
            MillSails noTee = Edges.noTee();
            Edges.row("rate of 2 1 without a TEE, kind", kind -> noTee.rate(kind, 2, 1), 0, 2, 3, 2, 6, 2, 3);
            MillSails five = Due.told("w2;rff;t0 0;n4;");
            for (int p = 0; p < 4; p++) {
                for (int strokes = 0; strokes < 6; strokes++) {
                    Due.is("less STROKES", five.rate(2, 0, 0), -strokes);
                    Due.is("and who is on", five.rate(4, 1, 0), 1 - strokes + p);
                    five.strikes(0, 1);
                }
            }
            Due.is("nobody is on", five.rate(4, 1, 0), 1);
        });
        Edges.sentence(22, "what is left over of THE TICK by TURN", () -> {
            for (int turn = 2; turn <= 6; turn++) {
                MillSails mill = Due.told("w2;rff;s" + turn + " 1;");
                for (int tick = 0; tick <= 2 * turn; tick++) {
                    Due.is("TURN " + turn + ", tick " + tick, mill.rate(5, 1, 0), 1 + (tick < turn ? tick : tick < 2 * turn ? tick - turn : 0));
                    mill.waits(1);
                }
            }
        });
        Edges.sentence(22, "RATE. NO: BAD.", () -> {
            Edges.bounds("kind", kind -> Edges.busy().rate(kind, 0, 0), 0, 5, Edges.NO);
            Edges.bounds("x", x -> Edges.busy().rate(0, x, 0), 0, 4, Edges.NO);
            Edges.bounds("y", y -> Edges.busy().rate(0, 0, y), 0, 3, Edges.NO);
            int[][] bad = {{-1, 0, 0}, {6, 0, 0}, {0, -1, 0}, {3, 5, 0}, {4, 0, -1}, {5, 0, 4}, {2, -1, -1}, {Edges.MAX, Edges.MIN, 0}};
            for (int[] one : bad) {
                Edges.refused("rate " + one[0] + " " + one[1] + " " + one[2], Edges::busy, mill -> mill.rate(one[0], one[1], one[2]), Edges.NO);
            }
            Edges.refusedOfAll("rate(6, 0, 0)", mill -> mill.rate(6, 0, 0), Edges.NO);
            Edges.refused("no CELLS", MillSails::new, mill -> mill.rate(0, 0, 0), Edges.NO);
        });
    }

    private static void keep() {
        Edges.sentence(23, "An IMAGE is kept: THE TICK. BAD.", () -> {
            Edges.boundsOn("image", Edges::busy, MillSails::keep, 0, 1, Edges.BAD);
            Edges.refusedOfAll("keep(2)", mill -> mill.keep(2), Edges.BAD);
            Edges.refusedOfAll("keep(-1)", mill -> mill.keep(-1), Edges.BAD);
            Due.is("of a new object", new MillSails().keep(0), 0);
            Due.is("busy", Edges.busy().keep(1), 14);
            MillSails mill = Due.told(LANE);
            mill.waits(1);
            Due.is("the first", mill.keep(0), 1);
            mill.waits(1);
            Due.is("the second", mill.keep(1), 2);
            mill.waits(1);
            Due.is("the first anew", mill.keep(0), 3);
            Due.is("it can be UNDONE still", mill.undo(), 2);
            Due.is("the second is as it was", mill.back(1), 2);
            Due.is("the first is the new one", mill.back(0), 3);
        });
    }

    private static void back() {
        Edges.sentence(24, "All of that becomes as an IMAGE has it: THE TICK. BAD; STATE: none was kept.", () -> {
            Edges.boundsOn("image", Edges::busy, MillSails::back, 0, 1, Edges.BAD);
            Edges.refusedOfAll("back(2)", mill -> mill.back(2), Edges.BAD);
            Edges.refusedOfAll("back(-1)", mill -> mill.back(-1), Edges.BAD);
            Edges.refused("back(0) of a new object", MillSails::new, mill -> mill.back(0), Edges.STATE);
            Edges.refused("back(1) of a new object", MillSails::new, mill -> mill.back(1), Edges.STATE);
            Edges.refused("back(1), the other was kept", Edges::over, mill -> mill.back(1), Edges.STATE);
            Edges.refused("back(0), the other was kept", Edges::noTee, mill -> mill.back(0), Edges.STATE);
            Edges.refused("back(0) behind another text", RestEdges::anotherText, mill -> mill.back(0), Edges.STATE);
            Edges.refused("back(1) behind another text", RestEdges::anotherText, mill -> mill.back(1), Edges.STATE);
        });
        Edges.sentence(24, "IMAGES 0, 1 keep NOW (THE TICK, boards, the ball, STROKES, who is on, SCORES); nothing else (nothing can be UNDONE behind back()).", () -> {
            MillSails mill = Edges.busy();
            Due.is("the first", mill.back(0), 5);
            Edges.row("now", mill::now, 0, 5, 1, 0, 0, 0, 0, 0);
            Due.is("a board set", mill.cell(2, 1), 1);
            Due.is("a board not taken yet", mill.cell(1, 1), 1);
            Due.is("the second", mill.back(1), 11);
            Edges.row("now", mill::now, 0, 11, 1, 1, 1, 0, 0, 0);
            Due.is("a board taken", mill.cell(1, 1), 0);
            Due.is("what lay stays", mill.count(6), 2);
            Due.is("the text stays", mill.count(7), 4);
            Due.is("the trace goes on", mill.trace(), 1011);
            Due.is("nothing can be UNDONE", mill.undo(), Edges.STATE);
            mill.strikes(0, 1);
            Due.is("the stroke can", mill.undo(), 0);
            MillSails over = Edges.over();
            over.keep(1);
            Due.is("not done yet", over.back(0), 2);
            Due.is("who is on", over.now(1), 0);
            Due.is("no score", over.score(0), 0);
            Due.is("over again", over.back(1), 5);
            Due.is("nobody is on", over.now(1), Edges.NONE);
            Due.is("scores", 10 * over.score(0) + over.score(1), 12);
        });
    }

    private static MillSails anotherText() {
        MillSails mill = Edges.busyWithoutText();
        Due.type(mill, "w2;rff;t0 0;");
        mill.lawn();
        return mill;
    }

    private static void count() {
        Edges.sentence(25, "0 WIDE, 1 ROWS, 2 TURN, 3 OPEN, 4 PLAYERS, 5 TEE (10 times y and x; NONE), 6 LAY, 7 letters of THE TEXT. BAD.", () -> {
            Edges.boundsOn("what", Edges::busy, MillSails::count, 0, 7, Edges.BAD);
            Edges.refusedOfAll("count(8)", mill -> mill.count(8), Edges.BAD);
            Edges.refusedOfAll("count(-1)", mill -> mill.count(-1), Edges.BAD);
            Edges.row("busy count", Edges.busy()::count, 0, 5, 4, 4, 2, 3, 0, 2, 4);
            Edges.row("count without a TEE", Edges.noTee()::count, 0, 3, 2, 2, 1, 4, Edges.NONE, 0, 3);
            Edges.row("count of a new object", new MillSails()::count, 0, 0, 0, 3, 0, 2, Edges.NONE, 0, 0);
            Edges.row("count of the most", most()::count, 0, 7, 7, 6, 5, 4, 66, 5, 150);
        });
    }

    private static MillSails most() {
        MillSails mill = Due.told("w7;" + "rfffffff;".repeat(7) + "t6 6;s6 5;n4;");
        for (int n = 0; n < 6; n++) {
            mill.lay(n, n);
        }
        Due.type(mill, " ".repeat(151));
        return mill;
    }

    private static void trace() {
        Edges.sentence(26, "0 CELL; 1 BOARD, 2 POND, 5 PIPE (each under CELL); 3 MILL (under BOARD); 4 LEAF (under POND).", () -> {
            MillSails mill = Due.told(LANE);
            long due = 0;
            for (int kind = 0; kind <= 5; kind++) {
                due += BY_KIND[kind];
                mill.rate(kind, 2, 0);
                Due.is("trace behind kind " + kind, mill.trace(), due);
            }
        });
        Edges.sentence(26, "numbers in brackets are added to THE TRACE, 0 at first, as often as rate() asks that body: each once", () -> {
            for (int kind = 0; kind <= 5; kind++) {
                MillSails mill = Due.told(LANE);
                mill.rate(kind, 6, 0);
                Due.is("trace of kind " + kind, mill.trace(), BY_KIND[kind]);
                mill.rate(kind, 0, 0);
                Due.is("twice", mill.trace(), 2L * BY_KIND[kind]);
                mill.rate(kind, 7, 0);
                mill.rate(kind, 0, 1);
                Due.is("not of what is none", mill.trace(), 2L * BY_KIND[kind]);
            }
            MillSails mill = Due.told(LANE);
            for (int n = 0; n < 490; n++) {
                mill.rate(5, 0, 0);
            }
            Due.is("as many as there may be", mill.trace(), 490L * 100001);
        });
        Edges.sentence(26, "THE TRACE goes on, as behind undo(), back()", () -> {
            MillSails mill = Edges.busy();
            mill.undo();
            mill.back(0);
            Due.is("it goes on", mill.trace(), 1011);
            mill.clear();
            mill.lawn();
            Due.is("read anew", mill.trace(), 1011);
            Due.is("no CELLS now", mill.rate(0, 0, 0), Edges.NO);
            Edges.changesNothing("trace", Edges::busy, MillSails::trace);
        });
    }
}
