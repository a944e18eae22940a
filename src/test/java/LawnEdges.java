import java.util.List;

/** Section 1 and promises 1 to 7: a new object, the text and what it tells, what is so now. */
final class LawnEdges {
    private static final String FULL_TEXT = "w2;rff;t1 0;s3 1;n4;";

    private LawnEdges() {
    }

    static void all() {
        aNewObject();
        typing();
        blanksAndTokens();
        itemsInTheirOrder();
        rows();
        tee();
        sailsAndPlayers();
        faults();
        readAnew();
        cells();
        scores();
        now();
    }

    /** A text with the sign | where its fault is due (the sign is not typed); nothing may change. */
    private static void fault(String marked) {
        int place = marked.indexOf('|');
        String text = marked.substring(0, place) + marked.substring(place + 1);
        Due.is("lawn() of " + shownText(marked), answerTo(text), -10 - place);
    }

    private static void faults(String... marked) {
        for (String one : marked) {
            fault(one);
        }
    }

    private static void stands(String text, int items) {
        Due.is("lawn() of " + shownText(text), answerTo(text), items);
    }

    private static int answerTo(String text) {
        MillSails mill = new MillSails();
        Due.type(mill, text);
        return mill.lawn();
    }

    private static String shownText(String text) {
        StringBuilder shown = new StringBuilder();
        for (char letter : text.toCharArray()) {
            if (letter >= ' ' && letter <= '~') {
                shown.append(letter);
            } else {
                shown.append('<').append((int) letter).append('>');
            }
        }
        return shown.toString();
    }

    private static void aNewObject() {
        Edges.sentence(1, "As told; no CELLS.", () -> {
            MillSails mill = new MillSails();
            for (int y = -1; y <= 7; y++) {
                for (int x = -1; x <= 7; x++) {
                    Due.is("cell " + x + " " + y, mill.cell(x, y), Edges.BAD);
                }
            }
            Due.is("rows", mill.count(1), 0);
            Due.is("boards", mill.boards(0, 0, 1), Edges.BAD);
            Due.is("green ones from where", mill.ones(), 0);
        });
        Edges.sentence(1, "TURN of the sails (2 .. 6 ticks; 3 at first), OPEN (0 .. TURN less 1; 0 at first)", () -> {
            MillSails mill = new MillSails();
            Due.is("TURN", mill.count(2), 3);
            Due.is("OPEN", mill.count(3), 0);
            for (int tick = 0; tick <= 7; tick++) {
                Due.is("open in tick " + tick, mill.now(4), tick % 3 == 0 ? 1 : 0);
                mill.waits(1);
            }
        });
        Edges.sentence(1, "PLAYERS (1 .. 4; 2 at first)", () -> {
            MillSails mill = new MillSails();
            Due.is("PLAYERS", mill.count(4), 2);
            Edges.bounds("score", mill::score, 0, 1, Edges.BAD);
            Due.is("seven each", mill.best(), 14);
        });
        Edges.sentence(1, "THE TICK is 0 at first (99999 at most).", () -> Due.is("TICK", new MillSails().now(0), 0));
        Edges.sentence(1, "THE TRACE, 0 at first", () -> Due.is("trace", new MillSails().trace(), 0));
        Edges.sentence(1, "`NO = -1000000`: What none is", () -> {
            Due.is("BAD", MillSails.BAD, -1);
            Due.is("STATE", MillSails.STATE, -2);
            Due.is("FULL", MillSails.FULL, -3);
            Due.is("NONE", MillSails.NONE, -9);
            Due.is("NO", MillSails.NO, -1000000);
        });
        Edges.sentence(1, "An object is used for at most 512 calls", () -> {
            MillSails mill = Due.told("w2;rff;t0 0;");
            int calls = "w2;rff;t0 0;".length() + 1;
            for (; calls < 511; calls++) {
                mill.waits(1);
            }
            Due.is("the 512th call", mill.now(0), 511 - 13);
        });
    }

    private static void typing() {
        Edges.sentence(2, "A letter (0 .. 255) comes to THE TEXT: how many it has.", () -> {
            Edges.boundsOn("type", Edges::busy, MillSails::type, 0, 255, Edges.BAD);
            Edges.refusedOfAll("type(256)", mill -> mill.type(256), Edges.BAD);
            MillSails mill = new MillSails();
            Due.is("the first", mill.type(0), 1);
            Due.is("the second", mill.type(255), 2);
            Due.is("the third", mill.type(59), 3);
        });
        Edges.sentence(2, "They are a text (150 letters at most)", () -> {
            MillSails mill = new MillSails();
            for (int n = 1; n <= 150; n++) {
                Due.is("letter " + n, mill.type(' '), n);
            }
            Due.is("the 151st", mill.type(' '), Edges.FULL);
            Due.is("the 152nd", mill.type('w'), Edges.FULL);
            Due.is("all of them", mill.count(7), 150);
            mill.clear();
            Due.is("empty again", mill.type(' '), 1);
        });
        Edges.sentence(2, "Refused, and nothing changes, the first of these: BAD (a number is not as told, or there is no such thing), STATE (as told), FULL.", () -> {
            Edges.refused("type(32) at 150", LawnEdges::fullText, mill -> mill.type(32), Edges.FULL);
            Edges.refused("type(59) at 150", LawnEdges::fullText, mill -> mill.type(59), Edges.FULL);
            Edges.refused("type(256) at 150", LawnEdges::fullText, mill -> mill.type(256), Edges.BAD);
            Edges.refused("type(-1) at 150", LawnEdges::fullText, mill -> mill.type(-1), Edges.BAD);
        });
        Edges.sentence(3, "THE TEXT is empty: how many letters it had.", () -> {
            Due.is("none", new MillSails().clear(), 0);
            MillSails mill = fullText();
            Due.is("150", mill.clear(), 150);
            Due.is("now empty", mill.count(7), 0);
            Due.is("none again", mill.clear(), 0);
            mill.type('w');
            Due.is("one", mill.clear(), 1);
            Due.is("nothing of it is read", mill.lawn(), 0);
            Edges.same("all but THE TEXT stays", Shown.of(Edges::busyWithoutText), Shown.of(() -> {
                MillSails other = Edges.busyWithoutText();
                Due.type(other, "w2;rff;");
                other.clear();
                return other;
            }));
        });
    }

    /** A text of 150 letters that is the same as the busy one's, and blanks. */
    private static MillSails fullText() {
        MillSails mill = Edges.busy();
        while (mill.count(7) < 150) {
            mill.type(' ');
        }
        return mill;
    }

    private static void blanksAndTokens() {
        Edges.sentence(4, "blanks (32), any number, ahead of, between, behind TOKENS (needed only between two NUMBERS)", () -> {
            stands("", 0);
            stands(" ", 0);
            stands(" ".repeat(150), 0);
            stands(FULL_TEXT, 5);
            stands("   w  2   ;   r  f   f  ;   t   1    0  ;  s   3    1   ;   n  4    ;    ", 5);
            stands(" ".repeat(147) + "n1;", 1);
            stands("n1;" + " ".repeat(147), 1);
            stands("n" + " ".repeat(147) + "1;", 1);
            stands("s3 0;", 1);
            faults("s|30;", "w2;rff;t1|;", "w2;rff;t|10;", "n1 |1;", "s3 1 |1;", "w2;rff;t1 0 |0;");
        });
        Edges.sentence(4, "of any other letter", () -> {
            for (int letter = 0; letter <= 255; letter++) {
                String one = String.valueOf((char) letter);
                if (letter == ' ') {
                    stands(one, 0);
                    stands("n1;" + one, 1);
                } else if (letter != '|') {
                    fault("wnst".indexOf(letter) >= 0 ? one + "|" : "|" + one);
                    fault("st".indexOf(letter) >= 0 ? "n1;" + one + "|" : "n1;|" + one);
                }
            }
            Due.is("the sign | itself", answerTo("n1;|"), -13);
        });
        Edges.sentence(4, "TOKENS are the single letters a .. z, NUMBERS and ; .", () ->
            faults("|`", "|{", "|A;", "|W2;", "|/", "|:", "w2;|R", "w|:;", "w|/;", "n1|:", "n1|.;", "|-1", "n|-1;", "n|+1;", "n1|,"));
        Edges.sentence(4, "a NUMBER above 99 or with a 0 ahead of others, that TOKEN's", () -> {
            faults("n|99;", "n|100;", "n|101;", "n|1000", "n|4294967297;", "n|18446744073709551617;", "w|258;");
            faults("n|0;", "n|00;", "n|01;", "n|001;", "n|010", "w|02;", "w|00", "s|03 1;", "s3 |01;", "s3 |00;");
            faults("w2;rff;t|00 0;", "w2;rff;t0 |00;", "w2;rff;t|01 0;", "|00;", "|100;", "n1;|07;", "n|" + "1".repeat(149));
            stands("w2;rff;t0 0;", 3);
        });
    }

    private static void itemsInTheirOrder() {
        Edges.sentence(4, "ITEMS (none, too), each ended by ;", () -> {
            stands("", 0);
            stands("n1;", 1);
            faults("|;", "n1;|;", "n1|", "n1 |", "n1|n1;", "w2|r", "w2;rff|t", "w2;rff;t0 0|s", "s3 1|n");
        });
        Edges.sentence(4, "w N (WIDE; the first of all ITEMS, or not told)", () -> {
            stands("w2;", 1);
            stands("n1;", 1);
            Due.is("not told", Due.told("n1;s2 0;").count(0), 0);
            faults("w2;|w2;", "n1;|w2;", "s3 0;|w7;", "w2;rff;|w2;", "w2;rff;t0 0;|w2;", "n1;|rff;", "w|;", "w|w", "w|r", "w2 |3;");
        });
        Edges.sentence(4, "WIDE (2 .. 7) CELLS", () -> {
            faults("w|0;", "w|1;", "w|8;", "w|9;", "w|10;", "w|99;");
            for (int wide = 2; wide <= 7; wide++) {
                MillSails mill = Due.told("w" + wide + ";r" + "f".repeat(wide) + ";");
                Due.is("WIDE", mill.count(0), wide);
                Due.is("the last CELL", mill.cell(wide - 1, 0), 0);
                Due.is("beyond it", mill.cell(wide, 0), Edges.BAD);
            }
        });
        Edges.sentence(4, "a letter that begins no ITEM, w behind another ITEM, r ahead of w or behind t, an eighth ROW, a CELL too many or too few, a second h among CELLS, t, s, n again, a NUMBER beyond what it may be, too", () ->
            faults("|a", "w2;|f", "w2;|x;", "w2;|2", "n1;|w2;", "|rff;", "w2;rff;t0 0;|rff;", "w2;rff;rff;rff;rff;rff;rff;rff;|rff;", "w2;rff|f;",
                "w2;rf|;", "w2;rhf;rf|h;", "w2;rff;t0 0;|t1 0;", "s3 1;|s3 1;", "n2;|n2;", "n|5;"));
    }

    private static void rows() {
        Edges.sentence(4, "r and WIDE CELLS", () -> {
            for (int wide = 2; wide <= 7; wide++) {
                String head = "w" + wide + ";r";
                fault(head + "f".repeat(wide - 1) + "|;");
                stands(head + "f".repeat(wide) + ";", 2);
                fault(head + "f".repeat(wide) + "|f;");
                fault(head + "f".repeat(wide) + "|");
                fault(head + "f".repeat(wide) + ";r|");
            }
            faults("w2;r|;", "w2;rf|r", "w2;rff|r");
        });
        Edges.sentence(4, "each a letter f (green), x (a board), p (a pond), h (HOLE; one at most), m (a mill)", () -> {
            MillSails mill = Due.told("w5;rfxphm;");
            Edges.row("cell of row 0", x -> mill.cell(x, 0), -1, Edges.BAD, 0, 1, 2, 3, 4, Edges.BAD);
            for (int letter = 0; letter <= 255; letter++) {
                char one = (char) letter;
                if (one == '|') {
                    Due.is("the sign | as a CELL", answerTo("w2;r|f;"), -14);
                } else if (one == ' ') {
                    fault("w2;r f|;");
                } else if ("fxphm".indexOf(one) >= 0) {
                    stands("w2;r" + one + "f;", 2);
                    stands("w2;rf" + one + ";", 2);
                } else {
                    fault("w2;r|" + one + "f;");
                    fault("w2;rf|" + one + ";");
                }
            }
        });
        Edges.sentence(4, "HOLE; one at most", () -> {
            stands("w2;rff;", 2);
            stands("w2;rhf;rff;", 3);
            stands("w2;rff;rfh;", 3);
            faults("w2;rh|h;", "w2;rhf;r|hf;", "w2;rfh;rff;rf|h;", "w2;rhf;s3 0;r|hf;");
            Due.is("none", Due.told("w2;rff;").ones(), 0);
        });
        Edges.sentence(4, "(the next ROW, behind w, ahead of t)", () -> {
            MillSails mill = Due.told("w2;rfx;n1;rpf;s2 0;rmh;");
            int[][] due = {{0, 1}, {2, 0}, {4, 3}};
            for (int y = 0; y < 3; y++) {
                Due.is("cell 0 " + y, mill.cell(0, y), due[y][0]);
                Due.is("cell 1 " + y, mill.cell(1, y), due[y][1]);
            }
            faults("|rff;w2;", "n1;|rff;", "s2 0;|r", "w2;t0 |0;rff;", "w2;rff;t0 0;|rff;", "w2;rff;t0 0;n1;|rff;");
        });
        Edges.sentence(4, "as many ROWS of them as are told (7 at most)", () -> {
            for (int told = 0; told <= 7; told++) {
                MillSails mill = Due.told("w2;" + "rff;".repeat(told));
                Due.is("ROWS", mill.count(1), told);
                Due.is("the last ROW", mill.cell(1, told - 1), told == 0 ? Edges.BAD : 0);
                Due.is("below it", mill.cell(1, told), Edges.BAD);
            }
            stands("w7;" + "rfffffff;".repeat(7), 8);
            fault("w2;" + "rff;".repeat(7) + "|rff;");
            fault("w7;" + "rfffffff;".repeat(7) + "|rfffffff;");
            stands("w2;" + "rff;".repeat(7) + "t1 6;", 9);
        });
    }

    private static void tee() {
        Edges.sentence(4, "t X Y (TEE; behind all ROWS, once; a green CELL, else FAULT at Y; without w at X)", () -> {
            faults("t|0 0;", "t|1 0;", "n1;t|0 0;", "s3 0;t|0", "w2;t0 |0;", "w2;t1 |0;", "w2;t|2 0;");
            faults("w2;rxf;t0 |0;", "w2;rpf;t0 |0;", "w2;rhf;t0 |0;", "w2;rmf;t0 |0;");
            faults("w2;rff;rfx;t1 |1;", "w2;rff;rfp;t1 |1;", "w2;rff;rfh;t1 |1;", "w2;rff;rfm;t1 |1");
            faults("w2;rff;t0 0;|t0 0;", "w2;rff;t0 0;n1;|t1 0;", "w2;rff;t1 0;|rff;");
            faults("t|;", "t|", "w2;rff;t|;", "w2;rff;t0|;", "w2;rff;t0|", "w2;rff;t0 |", "w2;rff;t0 0|", "w2;rff;t0 0 |1;", "w2;rff;t|f");
            stands("w2;rff;t0 0;n1;s2 1;", 5);
        });
        Edges.sentence(4, "a CELL is told by x (0 .. WIDE less 1) and y", () -> {
            for (int wide = 2; wide <= 7; wide++) {
                String head = "w" + wide + ";r" + "f".repeat(wide) + ";t";
                Due.is("TEE at the right end", Due.told(head + (wide - 1) + " 0;").count(5), wide - 1);
                Due.is("TEE at the left end", Due.told(head + "0 0;").count(5), 0);
                fault(head + "|" + wide + " 0;");
            }
            for (int told = 1; told <= 7; told++) {
                String head = "w2;" + "rff;".repeat(told) + "t1 ";
                Due.is("TEE in the last ROW", Due.told(head + (told - 1) + ";").count(5), 10 * (told - 1) + 1);
                fault(head + "|" + told + ";");
            }
            faults("w7;rfffffff;t|8 0;", "w7;rfffffff;t|99 0;", "w7;rfffffff;t0 |99;", "w7;rfffffff;t0 |7;");
        });
        Edges.sentence(4, "If there is no t: no TEE, nobody can strike.", () -> {
            MillSails mill = Due.told("w2;rfh;");
            Due.is("TEE", mill.count(5), Edges.NONE);
            Due.is("who is on", mill.now(1), Edges.NONE);
            Due.is("the ball", mill.now(2), Edges.NONE);
            Due.is("a stroke", mill.strikes(1, 1), Edges.STATE);
            MillSails struck = Due.told("w2;rfh;t0 0;");
            Due.is("with t", struck.strikes(1, 1), Edges.IN);
        });
    }

    private static void sailsAndPlayers() {
        Edges.sentence(4, "s T O (TURN, OPEN)", () -> {
            faults("s|0 0;", "s|1 0;", "s|7 0;", "s|8 0;", "s|99 0;", "s|;", "s|", "s3|", "s3|;", "s3 |", "s3 0|", "s3 0|n", "s|n");
            for (int turn = 2; turn <= 6; turn++) {
                MillSails first = Due.told("s" + turn + " 0;");
                Due.is("TURN", first.count(2), turn);
                Due.is("OPEN", first.count(3), 0);
                Due.is("the last OPEN", Due.told("s" + turn + " " + (turn - 1) + ";").count(3), turn - 1);
                fault("s" + turn + " |" + turn + ";");
                fault("s" + turn + " |" + (turn + 1) + ";");
            }
        });
        Edges.sentence(4, "n N (PLAYERS; once at most each)", () -> {
            faults("n|0;", "n|5;", "n|6;", "n|;", "n|", "n1|", "n1;|n1;", "n1;s2 0;|n1;", "s2 0;|s2 0;", "s2 0;n1;|s3 1;");
            for (int players = 1; players <= 4; players++) {
                MillSails mill = Due.told("n" + players + ";");
                Due.is("PLAYERS", mill.count(4), players);
                Due.is("TURN is not told", mill.count(2), 3);
                Edges.bounds("score of " + players, mill::score, 0, players - 1, Edges.BAD);
            }
        });
    }

    private static void faults() {
        Edges.sentence(4, "the text's length, if it ends too early", () -> {
            int ended = 0;
            for (int length = 0; length <= FULL_TEXT.length(); length++) {
                String text = FULL_TEXT.substring(0, length);
                if (length == 0 || text.endsWith(";")) {
                    stands(text, ended);
                    stands(text + "  ", ended);
                } else {
                    fault(text + "|");
                    fault(text + "   |");
                }
                ended += FULL_TEXT.startsWith(";", length) ? 1 : 0;
            }
            fault("n" + " ".repeat(149) + "|");
            fault(" ".repeat(149) + "n|");
        });
        Edges.sentence(4, "the place of the first letter of the first TOKEN that can't stand there", () -> {
            fault("|;" + " ".repeat(149));
            fault(" ".repeat(149) + "|;");
            fault(" ".repeat(148) + "n|;");
            faults("   |5;", "w |8 ;", "w  2  ;  |w", "n|19;", "n|91;", "n |12", "w2;rff;t0 |10;", "w2;r|", "n1;|#n");
            faults("|#$", "w|9;#", "n1|#", "w2;r|#", "n|5#");
        });
        Edges.sentence(4, "-10 less FAULT: nothing changes (THE TEXT stays, too).", () -> {
            String[] texts = {";", "w2;w", "w2;rff;t0 1;", "w3;rhfh;", "w2;rff;t0 0;s5 4;n4;q", "s6 5;n4;w2;", "n1;w2", "w7;rxxxxxxx;t0 0;", "n100;", "#"};
            int[] places = {0, 3, 10, 6, 20, 8, 3, 15, 1, 0};
            for (int i = 0; i < texts.length; i++) {
                String text = texts[i];
                Edges.refused("lawn() of " + text, () -> {
                    MillSails mill = Edges.busyWithoutText();
                    Due.type(mill, text);
                    return mill;
                }, MillSails::lawn, -10 - places[i]);
            }
            Edges.refused("lawn() when it is over", Edges::over, MillSails::lawn, -12);
            Edges.refused("lawn() without a TEE", Edges::noTee, MillSails::lawn, -13);
            Edges.refused("lawn() of a full text", LawnEdges::fullText, MillSails::lawn, -13);
        });
    }

    private static void readAnew() {
        Edges.sentence(4, "THE TEXT tells all anew, and is empty then: how many ITEMS.", () -> {
            MillSails mill = Edges.busyWithoutText();
            Due.type(mill, "w2;rfh;rff;t1 1;s6 5;n4;");
            Due.is("six", mill.lawn(), 6);
            Due.is("empty", mill.count(7), 0);
            Due.is("and none", mill.lawn(), 0);
            stands("w2;" + "rff;".repeat(7) + "s2 0;n1;t0 6;", 11);
        });
        Edges.sentence(4, "(Read anew: as told (what is not told as at first), TICK 0, nothing LAY, IMAGES are gone, nothing can be UNDONE; THE TRACE goes on, as behind undo(), back().)", () -> {
            String[] texts = {"", "n1;", "w2;", "w2;rff;rhf;t0 0;", FULL_TEXT, "s6 5;"};
            for (String text : texts) {
                Edges.same("read anew: " + text, withoutTrace(Shown.of(() -> readBehindAll(text))), withoutTrace(Shown.of(() -> Due.told(text))));
                Due.is("the trace", readBehindAll(text).trace(), 1011);
                Edges.same("read behind others and faults: " + text, Shown.of(() -> readBehindMany(text)), Shown.of(() -> Due.told(text)));
            }
        });
    }

    private static MillSails readBehindAll(String text) {
        MillSails mill = Edges.busyWithoutText();
        Due.type(mill, text);
        mill.lawn();
        return mill;
    }

    private static MillSails readBehindMany(String text) {
        MillSails mill = new MillSails();
        String[] others = {"w4;rxpmh;rppmm;rxxxx;t", "w4;rxpmh;rppmm;rxxxx;s6 5;n4;", "w4;rmxpf;rmhpx;t3 0;s5 4;n1;", "w4;rmxph;rmxpxx", "s2 1;n3;n"};
        for (String other : others) {
            Due.type(mill, other);
            mill.lawn();
            mill.clear();
        }
        Due.type(mill, text);
        mill.lawn();
        return mill;
    }

    private static List<String> withoutTrace(List<String> rows) {
        return rows.stream().filter(row -> !row.contains("trace()")).toList();
    }

    private static void cells() {
        Edges.sentence(5, "What a CELL is NOW: 0 green, 1 a board, 2 a pond, 3 the HOLE, 4 a mill. BAD.", () -> {
            MillSails mill = Edges.busy();
            int[][] due = {{0, 0, 0, 4, 0}, {0, 0, 1, 2, 0}, {0, 0, 0, 3, 0}, {1, 0, 0, 0, 4}};
            for (int y = 0; y < 4; y++) {
                for (int x = 0; x < 5; x++) {
                    Due.is("cell " + x + " " + y, mill.cell(x, y), due[y][x]);
                }
            }
            Edges.boundsOn("x", Edges::busy, (one, x) -> one.cell(x, 0), 0, 4, Edges.BAD);
            Edges.boundsOn("y", Edges::busy, (one, y) -> one.cell(0, y), 0, 3, Edges.BAD);
            Edges.bounds("x and y of 7 by 7", n -> Due.told("w7;" + "rfffffff;".repeat(7)).cell(n, n), 0, 6, Edges.BAD);
            Edges.bounds("x of 2", x -> Due.told("w2;rff;").cell(x, 0), 0, 1, Edges.BAD);
            Edges.bounds("y of 1", y -> Due.told("w2;rff;").cell(1, y), 0, 0, Edges.BAD);
            Edges.changesNothing("cell", Edges::busy, one -> one.cell(1, 1));
        });
    }

    private static void scores() {
        Edges.sentence(6, "SCORE of a PLAYER (0: not done). BAD.", () -> {
            MillSails mill = Edges.over();
            Due.is("done at once", mill.score(0), 1);
            Due.is("done by two", mill.score(1), 2);
            Due.is("one PLAYER more", mill.score(2), Edges.BAD);
            MillSails four = Due.told("w2;rfh;t0 0;n4;");
            for (int p = 0; p < 4; p++) {
                Due.is("not done", four.score(p), 0);
                four.strikes(1, 1);
                Due.is("done", four.score(p), 1);
            }
            Edges.bounds("score of four", four::score, 0, 3, Edges.BAD);
            Edges.boundsOn("score of three", Edges::busy, MillSails::score, 0, 2, Edges.BAD);
            Edges.refused("score of two", Edges::over, one -> one.score(2), Edges.BAD);
        });
    }

    private static void now() {
        Edges.sentence(7, "5 LEADER (NONE), 6 how many may be UNDONE. BAD.", () -> {
            Edges.boundsOn("now", Edges::busy, MillSails::now, 0, 6, Edges.BAD);
            Edges.refusedOfAll("now(7)", mill -> mill.now(7), Edges.BAD);
            Edges.refusedOfAll("now(-1)", mill -> mill.now(-1), Edges.BAD);
            for (int what = 0; what <= 6; what++) {
                int asked = what;
                Edges.changesNothing("now " + what, Edges::busy, mill -> mill.now(asked));
            }
        });
        Edges.sentence(7, "1 who is on (NONE: OVER, no TEE), 2 where the ball lies (10 times y and x; NONE), 3 STROKES", () -> {
            Edges.row("busy now", Edges.busy()::now, 0, 14, 1, 31, 2, 1, 0, 7);
            Edges.row("over now", Edges.over()::now, 0, 5, Edges.NONE, Edges.NONE, 0, 0, 0, 4);
            Edges.row("without a TEE now", Edges.noTee()::now, 0, 3, Edges.NONE, Edges.NONE, 0, 1, Edges.NONE, 3);
            Edges.row("a new object now", new MillSails()::now, 0, 0, Edges.NONE, Edges.NONE, 0, 1, Edges.NONE, 0);
            MillSails last = Due.told("w7;" + "rfffffff;".repeat(7) + "t6 6;");
            Due.is("the last CELL of all", last.now(2), 66);
        });
        Edges.sentence(7, "PLAYER 0 is on, his ball lies on the TEE, 0 STROKES; all SCORES are 0 (not done).", () -> {
            MillSails mill = Due.told("w7;" + "rfffffff;".repeat(7) + "t5 6;n4;");
            Edges.row("at first now", mill::now, 0, 0, 0, 65, 0, 1, Edges.NONE, 0);
            Edges.row("at first score", mill::score, 0, 0, 0, 0, 0, Edges.BAD);
        });
        Edges.sentence(7, "a mill is OPEN in each tick of which, by TURN, OPEN is left over", () -> {
            for (int turn = 2; turn <= 6; turn++) {
                for (int open = 0; open < turn; open++) {
                    MillSails mill = Due.told("s" + turn + " " + open + ";");
                    for (int tick = 0; tick <= 2 * turn + 1; tick++) {
                        boolean due = tick == open || tick == open + turn || tick == open + 2 * turn;
                        Due.is("TURN " + turn + ", OPEN " + open + ", tick " + tick, mill.now(4), due ? 1 : 0);
                        mill.waits(1);
                    }
                }
            }
        });
        Edges.sentence(7, "LEADER: who is done with least SCORE, of several the lowest; NONE.", () -> {
            MillSails mill = Due.told("w2;rfh;rff;t0 0;n4;");
            Due.is("nobody is done", mill.now(5), Edges.NONE);
            mill.strikes(3, 1);
            Due.is("he is on, not done", mill.now(5), Edges.NONE);
            mill.strikes(3, 1);
            mill.strikes(1, 1);
            Due.is("the only one (3)", mill.now(5), 0);
            mill.strikes(3, 1);
            mill.strikes(3, 1);
            mill.strikes(1, 1);
            Due.is("as many: the lowest", mill.now(5), 0);
            mill.strikes(3, 1);
            mill.strikes(1, 1);
            Due.is("one less (2)", mill.now(5), 2);
            mill.strikes(1, 1);
            Due.is("the last of all (1)", mill.now(5), 3);
            mill.undo();
            Due.is("not done any more", mill.now(5), 2);
        });
    }
}
