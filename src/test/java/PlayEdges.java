import java.util.Arrays;

/** Section 2 and promises 8 to 11: strokes, waiting, boards, and all of it undone. */
final class PlayEdges {
    private static final int LAST_TICK = 99999;
    /** The hole two CELLS right of the TEE, a pond below the CELL between. */
    private static final String NEAR = "w5;rffhff;rfpfff;t0 0;n2;";

    private PlayEdges() {
    }

    static void all() {
        wayAndHard();
        stays();
        mills();
        ponds();
        hole();
        scores();
        nextPlayers();
        lastTick();
        waits();
        boards();
        undo();
    }

    /** A new object, told and struck once, that has waited until a TICK. This takes many a call. */
    private static MillSails late(String text, int way, int hard, int tick) {
        MillSails mill = Due.told(text);
        if (hard > 0) {
            mill.strikes(way, hard);
        }
        while (mill.now(0) < tick) {
            mill.waits(Math.min(9, tick - mill.now(0)));
        }
        return mill;
    }

    private static MillSails late(int tick) {
        return late(NEAR, 0, 0, tick);
    }

    /** Where a ball would lie, by HARD 1 to 6. */
    private static void ends(String where, MillSails mill, int way, int... due) {
        Edges.row(where + ": way " + way + ", hard", hard -> mill.would(way, hard), 1, widened(due));
        for (int hard = 1; hard <= due.length; hard++) {
            Due.is(where + ": struck " + way + " " + hard, mill.strikes(way, hard), due[hard - 1]);
            mill.undo();
        }
    }

    private static long[] widened(int... numbers) {
        long[] wide = new long[numbers.length];
        for (int i = 0; i < wide.length; i++) {
            wide[i] = numbers[i];
        }
        return wide;
    }

    private static void wayAndHard() {
        Edges.sentence(8, "a WAY (0 up, y less 1; 1 right; 2 down; 3 left), HARD (1 .. 6 CELLS)", () -> {
            int[] due = {1, 12, 21, 10};
            for (int way = 0; way <= 3; way++) {
                Due.is("way " + way, Due.told("w3;rfff;rfff;rfff;t1 1;").strikes(way, 1), due[way]);
            }
            for (int hard = 1; hard <= 6; hard++) {
                MillSails mill = Due.told("w7;rfffffff;t0 0;");
                Due.is("hard " + hard, mill.strikes(1, hard), hard);
                Due.is("ticks of hard " + hard, mill.now(0), hard);
                Due.is("it lies there", mill.now(2), hard);
            }
            Edges.boundsOn("way", Edges::busy, (mill, way) -> mill.strikes(way, 1), 0, 3, Edges.BAD);
            Edges.boundsOn("hard", Edges::busy, (mill, hard) -> mill.strikes(1, hard), 1, 6, Edges.BAD);
        });
        Edges.sentence(8, "A STROKE: where the ball lies (10 times y and x; -5: IN; -6: a pond). BAD; STATE: nobody is on", () -> {
            Edges.refusedWithNobodyOn("strikes(0, 1)", mill -> mill.strikes(0, 1));
            Edges.refusedWithNobodyOn("strikes(3, 6)", mill -> mill.strikes(3, 6));
            Edges.refusedOfAll("strikes(4, 1)", mill -> mill.strikes(4, 1), Edges.BAD);
            Edges.refusedOfAll("strikes(-1, 6)", mill -> mill.strikes(-1, 6), Edges.BAD);
            Edges.refusedOfAll("strikes(0, 0)", mill -> mill.strikes(0, 0), Edges.BAD);
            Edges.refusedOfAll("strikes(0, 7)", mill -> mill.strikes(0, 7), Edges.BAD);
            Due.is("from the first CELL to the last", Due.told("w7;rfffffff;" + "rxxxxxxf;".repeat(6) + "t6 0;").strikes(2, 6), 66);
            Due.is("a sixth stroke: where it lies, not where the next one's does", sixth().strikes(1, 1), 1);
        });
    }

    /** Five STROKES are counted; the ball lies on the TEE. */
    private static MillSails sixth() {
        return struckUp("w3;rfff;t0 0;n2;", 5);
    }

    /** Struck up so many times; above the TEE there is no CELL. */
    private static MillSails struckUp(String text, int times) {
        MillSails mill = Due.told(text);
        for (int n = 0; n < times; n++) {
            mill.strikes(0, 1);
        }
        return mill;
    }

    private static void stays() {
        Edges.sentence(8, "if that is off THE LAWN, a board, or a mill that is not OPEN in that tick, it stays in that tick, and its WAY is turned back from then on", () -> {
            String[] lawns = {"w3;rfff;rfff;rfff;t1 1;", "w5;rxxxxx;rxfffx;rxfffx;rxfffx;rxxxxx;t2 2;",
                "w5;rmmmmm;rmfffm;rmfffm;rmfffm;rmmmmm;t2 2;s6 0;"};
            for (int i = 0; i < lawns.length; i++) {
                int off = i == 0 ? 0 : 11;
                int most = i == 2 ? 5 : 6;
                int[][] due = {{1, 1, 11, 21, 21, 11}, {12, 12, 11, 10, 10, 11}, {21, 21, 11, 1, 1, 11}, {10, 10, 11, 12, 12, 11}};
                for (int way = 0; way <= 3; way++) {
                    int[] row = Arrays.copyOf(due[way], most);
                    for (int h = 0; h < most; h++) {
                        row[h] += off;
                    }
                    ends("lawn " + i, Due.told(lawns[i]), way, row);
                }
            }
        });
        Edges.sentence(8, "it stays in that tick", () -> {
            MillSails shut = Due.told("w3;rfxf;rxfx;rfxf;t1 1;n4;");
            for (int way = 0; way <= 3; way++) {
                ends("boards all around", shut, way, 11, 11, 11, 11, 11, 11);
            }
            MillSails edge = Due.told("w2;rfx;rff;t0 0;");
            ends("at an edge at first", edge, 3, 0, 0, 0, 0, 0, 0);
            ends("up at an edge, then down", edge, 0, 0, 10, 10, 0, 0, 10);
            edge.strikes(0, 6);
            Due.is("a tick for each, stayed or gone", edge.now(0), 6);
        });
        Edges.sentence(8, "The ball ROLLS a CELL in each of as many ticks: in a tick (THE TICK is one more first)", () -> {
            for (int hard = 1; hard <= 6; hard++) {
                MillSails mill = Due.told("w2;rff;t0 0;");
                mill.waits(1);
                mill.strikes(0, hard);
                Due.is("ticks of hard " + hard, mill.now(0), 1 + hard);
            }
            Due.is("open in tick 1", Due.told("w2;rfm;t0 0;s3 1;").strikes(1, 1), 1);
            Due.is("open in tick 0, gone by then", Due.told("w2;rfm;t0 0;s3 0;").strikes(1, 1), 0);
            Due.is("open in tick 2, too early", Due.told("w2;rfm;t0 0;s3 2;").strikes(1, 1), 0);
        });
    }

    private static void mills() {
        Edges.sentence(8, "a mill that is not OPEN in that tick", () -> {
            String text = "w3;rfmf;t0 0;s3 2;";
            int[][] due = {{0, 0, 0, 0, 1, 2}, {1, 2, 2, 1, 0, 0}, {0, 0, 1, 2, 2, 1}, {0, 0, 0, 0, 1, 2}};
            for (int tick = 0; tick < due.length; tick++) {
                MillSails mill = Due.told(text);
                if (tick > 0) {
                    mill.waits(tick);
                }
                ends("struck in tick " + tick, mill, 1, due[tick]);
            }
            for (int turn = 2; turn <= 6; turn++) {
                for (int tick = 0; tick <= turn; tick++) {
                    MillSails mill = Due.told("w2;rfm;t0 0;s" + turn + " " + (turn - 1) + ";");
                    if (tick > 0) {
                        mill.waits(tick);
                    }
                    Due.is("TURN " + turn + ", struck in tick " + tick, mill.would(1, 1), (tick + 2) % turn == 0 ? 1 : 0);
                }
            }
        });
        Edges.sentence(8, "It may come to lie on a mill.", () -> {
            MillSails mill = Due.told("w3;rfmf;t0 0;s6 1;n1;");
            Due.is("on it", mill.strikes(1, 1), 1);
            Due.is("it lies there", mill.now(2), 1);
            Due.is("the mill is one still", mill.cell(1, 0), 4);
            Due.is("no board there", mill.boards(1, 0, 1), Edges.STATE);
            Due.is("open as it came", mill.now(4), 1);
            mill.waits(1);
            Due.is("shut now", mill.now(4), 0);
            Due.is("a shut mill does not hold the ball", mill.strikes(1, 1), 2);
            Due.is("nor let it in again", mill.strikes(3, 1), 2);
            Due.is("strokes", mill.now(3), 3);
        });
    }

    private static void ponds() {
        Edges.sentence(8, "Comes it to a pond, it is over: the ball lies again where it was struck, and one more STROKE is counted.", () -> {
            MillSails mill = Due.told("w5;rfffpf;t0 0;n1;");
            ends("a pond three away", mill, 1, 1, 2, Edges.SUNK, Edges.SUNK, Edges.SUNK, Edges.SUNK);
            mill.strikes(1, 1);
            Due.is("struck with more than it needs", mill.strikes(1, 6), Edges.SUNK);
            Due.is("where it was struck", mill.now(2), 1);
            Due.is("one and two", mill.now(3), 3);
            Due.is("ticks until the pond", mill.now(0), 1 + 2);
            Due.is("just as far", mill.strikes(1, 2), Edges.SUNK);
            Due.is("where it was struck again", mill.now(2), 1);
            Due.is("and two", mill.now(3), 5);
            Due.is("ticks", mill.now(0), 5);
            Due.is("left, back from the edge, into the pond in the sixth tick", Due.told("w5;rfffpf;t1 0;").strikes(3, 5), Edges.SUNK);
            Due.is("one less", Due.told("w5;rfffpf;t1 0;").strikes(3, 4), 2);
        });
    }

    private static void hole() {
        Edges.sentence(8, "Goes it to the HOLE with one tick left to roll behind that at most, it is IN; with more left it rolls on.", () -> {
            for (int away = 1; away <= 6; away++) {
                String row = "f".repeat(away) + "h" + "f".repeat(6 - away);
                MillSails mill = Due.told("w7;r" + row + ";t0 0;");
                if (away > 1) {
                    Due.is("one too weak", mill.would(1, away - 1), away - 1);
                }
                Due.is("none left", mill.would(1, away), Edges.IN);
                if (away < 6) {
                    Due.is("one left", mill.would(1, away + 1), Edges.IN);
                }
                if (away < 5) {
                    Due.is("two left", mill.would(1, away + 2), away + 2);
                }
                mill.strikes(1, Math.min(6, away + 1));
                Due.is("it ends as it is IN", mill.now(0), away);
                Due.is("he is done", mill.score(0), 1);
            }
            MillSails wall = Due.told("w3;rffh;t0 0;");
            ends("over it, back from the edge", wall, 1, 1, Edges.IN, Edges.IN, 1, 0, 0);
            MillSails twice = Due.told("w4;rffhf;t0 0;");
            ends("over it, and into it on the way back", twice, 1, 1, Edges.IN, Edges.IN, 3, Edges.IN, Edges.IN);
        });
    }

    private static void scores() {
        Edges.sentence(8, "A ball that is IN: his SCORE is his STROKES (7, if they are more than 6).", () -> {
            for (int before = 0; before <= 5; before++) {
                MillSails mill = struckUp("w2;rfh;t0 0;n1;", before);
                Due.is("in behind " + before, mill.strikes(1, 1), Edges.IN);
                Due.is("score", mill.score(0), before + 1);
            }
            MillSails six = struckUp("w2;rfh;t0 0;n1;", 6);
            Due.is("too late", six.strikes(1, 1), Edges.STATE);
            Due.is("seven", six.score(0), 7);
            MillSails wet = struckUp("w3;rpfh;t1 0;n1;", 3);
            wet.strikes(3, 1);
            Due.is("five, a pond among them", wet.now(3), 5);
            Due.is("in by the sixth", wet.strikes(1, 1), Edges.IN);
            Due.is("six", wet.score(0), 6);
        });
        Edges.sentence(8, "If it is not and 6 STROKES or more are counted: his SCORE is 7.", () -> {
            for (int times = 4; times <= 6; times++) {
                MillSails mill = struckUp("w2;rfh;t0 0;n1;", times);
                Due.is("score behind " + times, mill.score(0), times == 6 ? 7 : 0);
                Due.is("strokes behind " + times, mill.now(3), times == 6 ? 0 : times);
                Due.is("on behind " + times, mill.now(1), times == 6 ? Edges.NONE : 0);
            }
            for (int before = 3; before <= 5; before++) {
                MillSails mill = struckUp("w3;rpfh;t1 0;n2;", before);
                Due.is("a pond behind " + before, mill.strikes(3, 1), Edges.SUNK);
                Due.is("score, a pond behind " + before, mill.score(0), before == 3 ? 0 : 7);
                Due.is("strokes, a pond behind " + before, mill.now(3), before == 3 ? 5 : 0);
                Due.is("on, a pond behind " + before, mill.now(1), before == 3 ? 0 : 1);
            }
        });
    }

    private static void nextPlayers() {
        Edges.sentence(8, "Then the next PLAYER is on, his ball on the TEE, 0 STROKES; behind the last one it is OVER.", () -> {
            for (int players = 1; players <= 4; players++) {
                MillSails mill = Due.told("w4;rffhf;rffff;t1 1;n" + players + ";");
                for (int p = 0; p < players; p++) {
                    Due.is("who is on", mill.now(1), p);
                    Due.is("on the TEE", mill.now(2), 11);
                    Due.is("no strokes", mill.now(3), 0);
                    mill.strikes(0, 1);
                    Due.is("one stroke", mill.now(3), 1);
                    mill.strikes(1, 1);
                    Due.is("two", mill.score(p), 2);
                }
                Due.is("over", mill.now(1), Edges.NONE);
                Due.is("no ball", mill.now(2), Edges.NONE);
                Due.is("no stroke more", mill.strikes(0, 1), Edges.STATE);
                Due.is("ticks of all", mill.now(0), 2 * players);
            }
        });
    }

    private static void lastTick() {
        Edges.sentence(8, "THE TICK would be above 99999 as the STROKE ends (perhaps earlier, in a pond, IN).", () -> {
            for (int hard = 1; hard <= 6; hard++) {
                int struck = hard;
                MillSails mill = late("w2;rff;t0 0;", 0, 0, LAST_TICK - hard);
                Due.is("up to the last tick, hard " + hard, mill.strikes(0, hard), 0);
                Due.is("it is the last", mill.now(0), LAST_TICK);
                Edges.refused("one above, hard " + hard, () -> late(LAST_TICK - struck + 1), one -> one.strikes(0, struck), Edges.STATE);
            }
            MillSails in = late(LAST_TICK - 2);
            Due.is("in, a tick left", in.strikes(1, 3), Edges.IN);
            Due.is("in the last tick", in.now(0), LAST_TICK);
            Edges.refused("in too late", () -> late(LAST_TICK - 1), one -> one.strikes(1, 3), Edges.STATE);
            MillSails wet = late(NEAR, 1, 1, LAST_TICK - 1);
            Due.is("a pond at once", wet.strikes(2, 6), Edges.SUNK);
            Due.is("in the last tick too", wet.now(0), LAST_TICK);
            Due.is("strokes", wet.now(3), 3);
            Edges.refused("a pond too late", () -> late(NEAR, 1, 1, LAST_TICK), one -> one.strikes(2, 6), Edges.STATE);
            Edges.refused("bad ahead of it", () -> late(LAST_TICK), one -> one.strikes(0, 7), Edges.BAD);
        });
    }

    private static void waits() {
        Edges.sentence(9, "WAITED: n (1 .. 9) ticks.", () -> {
            Edges.boundsOn("waits", Edges::busy, MillSails::waits, 1, 9, Edges.BAD);
            Edges.refusedOfAll("waits(0)", mill -> mill.waits(0), Edges.BAD);
            Edges.refusedOfAll("waits(10)", mill -> mill.waits(10), Edges.BAD);
            MillSails mill = Due.told("w2;rff;t0 0;");
            Due.is("one", mill.waits(1), 1);
            Due.is("nine", mill.waits(9), 10);
            Due.is("the ball stays", mill.now(2), 0);
            Due.is("no stroke", mill.now(3), 0);
            Due.is("of a new object", new MillSails().waits(9), 9);
            Due.is("when it is over", Edges.over().waits(1), 6);
            Due.is("without a TEE", Edges.noTee().waits(1), 4);
        });
        Edges.sentence(9, "WAITED: THE TICK. BAD; STATE: it would be above 99999.", () -> {
            Due.is("up to it by one", late(LAST_TICK - 1).waits(1), LAST_TICK);
            Due.is("up to it by nine", late(LAST_TICK - 9).waits(9), LAST_TICK);
            Due.is("below it", late(LAST_TICK - 9).waits(8), LAST_TICK - 1);
            Edges.refused("above it by one", () -> late(LAST_TICK), mill -> mill.waits(1), Edges.STATE);
            Edges.refused("above it by nine", () -> late(LAST_TICK - 8), mill -> mill.waits(9), Edges.STATE);
            Edges.refused("bad ahead of it", () -> late(LAST_TICK), mill -> mill.waits(10), Edges.BAD);
        });
    }

    private static void boards() {
        Edges.sentence(10, "set on a green CELL that is not the TEE, and where no ball lies", () -> {
            Due.is("green", Edges.busy().boards(1, 0, 1), 3);
            Due.is("the first of ROW 1", Edges.busy().boards(0, 1, 1), 3);
            int[][] not = {{0, 0}, {1, 3}, {2, 1}, {0, 3}, {3, 1}, {3, 2}, {3, 0}, {4, 3}};
            String[] why = {"the TEE", "under the ball", "a board that was set", "a board that was told", "a pond", "the hole", "a mill", "another mill"};
            for (int i = 0; i < not.length; i++) {
                int x = not[i][0];
                int y = not[i][1];
                Edges.refused("set on " + why[i], Edges::busy, mill -> mill.boards(x, y, 1), Edges.STATE);
            }
            Edges.refused("the TEE, when it is over", Edges::over, mill -> mill.boards(0, 0, 1), Edges.STATE);
            MillSails left = Due.told("w3;rffh;t0 0;n1;");
            left.strikes(1, 1);
            Due.is("under the ball", left.boards(1, 0, 1), Edges.STATE);
            left.strikes(3, 1);
            Due.is("where it lay", left.boards(1, 0, 1), 1);
            left.boards(1, 0, 0);
            left.strikes(1, 1);
            left.strikes(1, 1);
            Due.is("nobody's ball lies there", left.boards(1, 0, 1), 1);
            Due.is("no TEE: the first CELL too", Due.told("w2;rff;").boards(0, 0, 1), 1);
        });
        Edges.sentence(10, "or a board (told ones too) is taken: it is green then", () -> {
            MillSails mill = Edges.busy();
            Due.is("a told one", mill.boards(0, 3, 0), 1);
            Due.is("green then", mill.cell(0, 3), 0);
            Due.is("one that was set", mill.boards(2, 1, 0), 0);
            Due.is("green then, too", mill.cell(2, 1), 0);
            Due.is("set again where one was told", mill.boards(0, 3, 1), 1);
            int[][] not = {{1, 0}, {0, 0}, {1, 3}, {1, 1}, {3, 1}, {3, 2}, {3, 0}};
            String[] why = {"green", "the TEE", "the ball", "a board taken before", "a pond", "the hole", "a mill"};
            for (int i = 0; i < not.length; i++) {
                int x = not[i][0];
                int y = not[i][1];
                Edges.refused("taken: " + why[i], Edges::busy, one -> one.boards(x, y, 0), Edges.STATE);
            }
            Due.is("a ball lies on green", Due.told("w2;rfx;t0 0;").boards(1, 0, 0), 0);
        });
        Edges.sentence(10, "BOARD is set (1), taken (0): how many boards there are. BAD; STATE: it can not be.", () -> {
            Edges.boundsOn("is", Edges::busy, (mill, is) -> mill.boards(2, 1, is), 0, 1, Edges.BAD);
            Edges.boundsOn("x", Edges::busy, (mill, x) -> mill.boards(x, 2, 1), 0, 4, Edges.BAD);
            Edges.boundsOn("y", Edges::busy, (mill, y) -> mill.boards(1, y, 1), 0, 3, Edges.BAD);
            Edges.refusedOfAll("a CELL that is none", mill -> mill.boards(5, 0, 1), Edges.BAD);
            Edges.refused("bad ahead of the TEE", Edges::busy, mill -> mill.boards(0, 0, 2), Edges.BAD);
            Edges.refused("bad ahead of a pond", Edges::busy, mill -> mill.boards(3, 1, -1), Edges.BAD);
            MillSails all = Due.told("w7;" + "rfffffff;".repeat(7));
            int boards = 0;
            for (int y = 0; y < 7; y++) {
                for (int x = 0; x < 7; x++) {
                    boards++;
                    Due.is("one more", all.boards(x, y, 1), boards);
                }
            }
            Due.is("one less", all.boards(6, 6, 0), 48);
            Due.is("the only one", Due.told("w2;rxf;").boards(0, 0, 0), 0);
        });
    }

    private static void undo() {
        Edges.sentence(11, "(10 are known, older ones are lost)", () -> {
            for (int done = 0; done <= 23; done++) {
                MillSails mill = Due.told("w3;rffh;t0 0;");
                for (int n = 0; n < done; n++) {
                    mill.waits(1);
                }
                int known = Math.min(10, done);
                Due.is("known behind " + done, mill.now(6), known);
                for (int n = 1; n <= known; n++) {
                    Due.is("undone " + n + " of " + done, mill.undo(), known - n);
                    Due.is("the tick", mill.now(0), done - n);
                }
                Due.is("none", mill.undo(), Edges.STATE);
                Due.is("the tick stays", mill.now(0), done - known);
                Due.is("goes on", mill.waits(1), done - known + 1);
                Due.is("known again", mill.now(6), 1);
            }
        });
        Edges.sentence(11, "the latest strikes(), waits(), boards() that was not refused", () -> {
            MillSails mill = Edges.busy();
            mill.strikes(4, 1);
            mill.waits(0);
            mill.boards(0, 0, 1);
            mill.undo();
            Due.is("the stroke", mill.now(2), 1);
            Due.is("its tick", mill.now(0), 11);
            mill.undo();
            Due.is("the stroke ahead of it", mill.now(2), 0);
            mill.undo();
            Due.is("a board that was taken", mill.cell(1, 1), 1);
            mill.undo();
            Due.is("the wait", mill.now(0), 5);
            mill.undo();
            Due.is("a board that was set", mill.cell(2, 1), 0);
            mill.undo();
            Due.is("a PLAYER who was done", mill.now(1), 0);
            Due.is("his score", mill.score(0), 0);
            Due.is("his strokes", mill.now(3), 1);
            Due.is("what lay is no matter of it", mill.count(6), 2);
            Due.is("nor the trace", mill.trace(), 1011);
            Due.is("nor the text", mill.count(7), 4);
            Due.is("the first", mill.undo(), 0);
            Due.is("an image stays", mill.back(1), 11);
        });
        Edges.sentence(11, "UNDONE: how many more may be. STATE: none.", () -> {
            Edges.refused("undo() of a new object", MillSails::new, MillSails::undo, Edges.STATE);
            Edges.refused("undo() behind all", () -> {
                MillSails mill = Edges.over();
                while (mill.now(6) > 0) {
                    mill.undo();
                }
                return mill;
            }, MillSails::undo, Edges.STATE);
            Edges.refused("undo() behind back()", () -> {
                MillSails mill = Edges.busy();
                mill.back(1);
                return mill;
            }, MillSails::undo, Edges.STATE);
            Due.is("how many more", Edges.busy().undo(), 6);
            Due.is("of four", Edges.over().undo(), 3);
            MillSails over = Edges.over();
            over.undo();
            Due.is("on again", over.now(1), 1);
            Due.is("where it lay", over.now(2), 0);
            Due.is("strokes he had", over.now(3), 1);
        });
    }
}
