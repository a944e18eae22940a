import java.util.Random;

/** Runs of calls, the same every time, on MillSails and on the document's words told again. */
public final class RandomRunsTest {
    private static final int RUNS = 1200;
    private static final int CALLS = 400;

    private final Random random;
    private final MillSails mill = new MillSails();
    private final WordsModel words = new WordsModel();
    private final StringBuilder story = new StringBuilder();
    private int told;

    private RandomRunsTest(long seed) {
        random = new Random(seed);
    }

    public static void main(String[] args) {
        long[] met = new long[30];
        for (int seed = 0; seed < RUNS; seed++) {
            new RandomRunsTest(seed).run(seed, met);
        }
        Due.end("RandomRunsTest (" + RUNS + " runs)");
    }

    private void run(int seed, long[] met) {
        tell(lawnText());
        for (int i = 0; i < CALLS && told < 500; i++) {
            if (!step()) {
                System.out.println("run " + seed + ":" + story);
                return;
            }
        }
    }

    private boolean same(String call, long got, long want) {
        story.append(' ').append(call).append('=').append(got);
        Due.is(call, got, want);
        return got == want;
    }

    private boolean tell(String text) {
        boolean same = true;
        for (int i = 0; i < text.length() && told < 500; i++) {
            told++;
            int letter = text.charAt(i);
            same &= same("type(" + letter + ")", mill.type(letter), words.type(letter));
        }
        same &= same("lawn()", mill.lawn(), words.lawn());
        if (words.count(7) > 0) {
            same &= same("clear()", mill.clear(), words.clear());
        }
        return same;
    }

    private int from(int least, int most) {
        return least + random.nextInt(most - least + 1);
    }

    private String lawnText() {
        int wide = from(2, 7);
        int rows = from(1, 7);
        String letters = "fffffffxxxpmm".substring(from(0, 6), from(8, 13));
        char[][] grid = new char[rows][wide];
        for (char[] row : grid) {
            for (int x = 0; x < wide; x++) {
                row[x] = letters.charAt(random.nextInt(letters.length()));
            }
        }
        int teeX = random.nextInt(wide);
        int teeY = random.nextInt(rows);
        grid[random.nextInt(rows)][random.nextInt(wide)] = 'h';
        grid[teeY][teeX] = from(0, 20) == 0 ? 'x' : 'f';
        StringBuilder text = new StringBuilder();
        text.append("w").append(wide).append(";");
        for (char[] row : grid) {
            text.append("r").append(row).append(";");
        }
        int turn = from(2, 6);
        String tee = "t" + teeX + " " + teeY + ";";
        String sails = from(0, 3) == 0 ? "" : "s " + turn + " " + from(0, turn - 1) + ";";
        String players = from(0, 3) == 0 ? "" : "n" + from(1, 4) + ";";
        return text.append(tee).append(sails).append(players).toString();
    }

    /** A text with some letters put in, taken out or changed. */
    private String spoilt(String text) {
        StringBuilder other = new StringBuilder(text);
        String letters = "wrtsnfxphm;; 0123456789azA\t";
        for (int n = from(1, 3); n > 0 && other.length() > 1; n--) {
            int at = random.nextInt(other.length());
            char letter = letters.charAt(random.nextInt(letters.length()));
            switch (from(0, 3)) {
                case 0 -> other.insert(at, letter);
                case 1 -> other.deleteCharAt(at);
                case 2 -> other.setCharAt(at, letter);
                default -> other.setLength(from(0, 2) == 0 ? at : other.length());
            }
        }
        return other.toString();
    }

    private boolean step() {
        told++;
        int way = from(0, 19) == 0 ? from(-1, 4) : from(0, 3);
        int hard = from(0, 19) == 0 ? from(0, 7) : from(1, 6);
        int x = from(-1, 7);
        int y = from(-1, 7);
        int few = from(-1, 2);
        switch (from(0, 33)) {
            case 0: return same("cell(" + x + "," + y + ")", mill.cell(x, y), words.cell(x, y));
            case 1: return same("score(" + few + ")", mill.score(few), words.score(few));
            case 2: return same("now(" + x + ")", mill.now(x), words.now(x));
            case 3: case 4: case 5: case 6: case 7:
                return same("strikes(" + way + "," + hard + ")",
                        mill.strikes(way, hard), words.strikes(way, hard));
            case 8: return same("waits(" + (x + 2) + ")", mill.waits(x + 2), words.waits(x + 2));
            case 9: case 10: case 11:
                return same("boards(" + x + "," + y + "," + few + ")",
                        mill.boards(x, y, few), words.boards(x, y, few));
            case 12: case 13: return same("undo()", mill.undo(), words.undo());
            case 14: return same("would(" + way + "," + hard + ")",
                    mill.would(way, hard), words.would(way, hard));
            case 15: case 16: return same("when(" + way + "," + hard + ")",
                    mill.when(way, hard), words.when(way, hard));
            case 17: case 18: return same("home(" + few + ")", mill.home(few), words.home(few));
            case 19: return same("home(" + x + ")", mill.home(x), words.home(x));
            case 20: return same("ones()", mill.ones(), words.ones());
            case 21: case 22: return same("odds(" + way + "," + hard + "," + x + "," + few + ")",
                    mill.odds(way, hard, x, few), words.odds(way, hard, x, few));
            case 23: return same("lay(" + x + "," + y + ")", mill.lay(x, y), words.lay(x, y));
            case 24: return same("forget()", mill.forget(), words.forget());
            case 25: return same("which(" + few + ")", mill.which(few), words.which(few));
            case 26: return same("best()", mill.best(), words.best());
            case 27: return from(0, 3) != 0
                    || same("board(" + few + ")", mill.board(few), words.board(few));
            case 28: return same("rate(" + (x - few) + "," + x + "," + y + ")",
                    mill.rate(x - few, x, y), words.rate(x - few, x, y));
            case 29: return same("keep(" + few + ")", mill.keep(few), words.keep(few));
            case 30: return same("back(" + few + ")", mill.back(few), words.back(few));
            case 31: return same("count(" + (x + 1) + ")", mill.count(x + 1), words.count(x + 1));
            case 32: return same("trace()", mill.trace(), words.trace());
            default: return from(0, 6) != 0 || tell(from(0, 1) == 0 ? lawnText() : spoilt(lawnText()));
        }
    }
}
