import java.util.ArrayList;
import java.util.Arrays;
import java.util.List;

/**
 * The document's words told a second time, as slowly and plainly as can be, to be compared with
 * MillSails: a grid of letters, copies of all for what can be undone, and ways home that are
 * counted over cell AND tick, ponds and all.
 */
final class WordsModel {
    private static final int FAR = 1000000;
    private static final int[] DX = {0, 1, 0, -1};
    private static final int[] DY = {-1, 0, 1, 0};

    /** All that can be undone or kept. */
    private static final class Now {
        char[][] grid = new char[0][];
        int tick;
        int x = -1;
        int y = -1;
        int strokes;
        int on = -9;
        int[] scores = new int[4];

        Now copy() {
            Now other = new Now();
            other.grid = copyOf(grid);
            other.tick = tick;
            other.x = x;
            other.y = y;
            other.strokes = strokes;
            other.on = on;
            other.scores = scores.clone();
            return other;
        }
    }

    /** Where a stroke ends. */
    private record End(int x, int y, int tick, int code) {
    }

    private record Token(int start, String letters) {
    }

    private String text = "";
    private int wide;
    private int rows;
    private int turn = 3;
    private int open;
    private int players = 2;
    private int teeX = -1;
    private int teeY = -1;
    private Now now = new Now();
    private final List<Now> past = new ArrayList<>();
    private final Now[] images = new Now[2];
    private final List<Integer> lain = new ArrayList<>();
    private long trace;

    private static char[][] copyOf(char[][] grid) {
        char[][] other = new char[grid.length][];
        for (int y = 0; y < grid.length; y++) {
            other[y] = grid[y].clone();
        }
        return other;
    }

    // ---- the text

    int type(int letter) {
        if (letter < 0 || letter > 255) {
            return -1;
        }
        if (text.length() == 150) {
            return -3;
        }
        text += (char) letter;
        return text.length();
    }

    int clear() {
        int had = text.length();
        text = "";
        return had;
    }

    private List<Token> tokens() {
        List<Token> all = new ArrayList<>();
        int i = 0;
        while (i < text.length()) {
            int from = i++;
            if (text.charAt(from) == ' ') {
                continue;
            }
            while ("0123456789".indexOf(text.charAt(from)) >= 0
                    && i < text.length() && "0123456789".indexOf(text.charAt(i)) >= 0) {
                i++;
            }
            all.add(new Token(from, text.substring(from, i)));
        }
        return all;
    }

    private static boolean isNumber(String letters, int least, int most) {
        return letters.matches("[0-9]|[1-9][0-9]")
                && Integer.parseInt(letters) >= least && Integer.parseInt(letters) <= most;
    }

    /** Token by token: what is asked of the next one is told by the item's letters so far. */
    int lawn() {
        WordsModel fresh = new WordsModel();
        List<char[]> grid = new ArrayList<>();
        List<String> item = new ArrayList<>();
        String heads = "";
        for (Token token : tokens()) {
            item.add(token.letters());
            if (!fresh.stands(item, heads, grid)) {
                return -10 - token.start();
            }
            if (token.letters().equals(";")) {
                heads += item.get(0);
                item.clear();
            }
        }
        if (!item.isEmpty()) {
            return -10 - text.length();
        }
        wide = fresh.wide;
        rows = grid.size();
        turn = fresh.turn;
        open = fresh.open;
        players = fresh.players;
        teeX = fresh.teeX;
        teeY = fresh.teeY;
        text = "";
        now = new Now();
        now.grid = grid.toArray(new char[0][]);
        now.x = teeX;
        now.y = teeY;
        now.on = teeX < 0 ? -9 : 0;
        past.clear();
        lain.clear();
        Arrays.fill(images, null);
        return heads.length();
    }

    private boolean stands(List<String> item, String heads, List<char[]> grid) {
        String head = item.get(0);
        String last = item.get(item.size() - 1);
        int nth = item.size() - 1;
        if (nth == 0) {
            return headStands(head, heads, grid.size());
        }
        switch (head) {
            case "w":
                if (nth == 1 && isNumber(last, 2, 7)) {
                    wide = Integer.parseInt(last);
                    return true;
                }
                return nth == 2 && last.equals(";");
            case "r":
                return cellStands(nth, last, grid);
            case "n":
                if (nth == 1 && isNumber(last, 1, 4)) {
                    players = Integer.parseInt(last);
                    return true;
                }
                return nth == 2 && last.equals(";");
            case "s":
                if (nth == 1 && isNumber(last, 2, 6)) {
                    turn = Integer.parseInt(last);
                    return true;
                }
                if (nth == 2 && isNumber(last, 0, turn - 1)) {
                    open = Integer.parseInt(last);
                    return true;
                }
                return nth == 3 && last.equals(";");
            default:
                if (nth == 1 && isNumber(last, 0, wide - 1)) {
                    teeX = Integer.parseInt(last);
                    return true;
                }
                if (nth == 2 && isNumber(last, 0, grid.size() - 1)) {
                    teeY = Integer.parseInt(last);
                    return grid.get(teeY)[teeX] == 'f';
                }
                return nth == 3 && last.equals(";");
        }
    }

    private boolean headStands(String head, String heads, int told) {
        switch (head) {
            case "w": return heads.isEmpty();
            case "r": return heads.startsWith("w") && heads.indexOf('t') < 0 && told < 7;
            case "t": case "s": case "n": return !heads.contains(head);
            default: return false;
        }
    }

    private boolean cellStands(int nth, String last, List<char[]> grid) {
        if (nth == wide + 1) {
            return last.equals(";");
        }
        if (last.length() != 1 || "fxphm".indexOf(last.charAt(0)) < 0) {
            return false;
        }
        if (nth == 1) {
            grid.add(new char[wide]);
        }
        for (char[] row : grid) {
            for (char letter : row) {
                if (letter == 'h' && last.equals("h")) {
                    return false;
                }
            }
        }
        grid.get(grid.size() - 1)[nth - 1] = last.charAt(0);
        return true;
    }

    // ---- what is asked

    private boolean isCell(int x, int y) {
        return x >= 0 && x < wide && y >= 0 && y < rows;
    }

    int cell(int x, int y) {
        return isCell(x, y) ? "fxphm".indexOf(now.grid[y][x]) : -1;
    }

    int score(int p) {
        return p >= 0 && p < players ? now.scores[p] : -1;
    }

    int now(int what) {
        switch (what) {
            case 0: return now.tick;
            case 1: return now.on;
            case 2: return now.on < 0 ? -9 : 10 * now.y + now.x;
            case 3: return now.strokes;
            case 4: return now.tick % turn == open ? 1 : 0;
            case 5:
                for (int least = 1; least <= 7; least++) {
                    for (int p = 0; p < players; p++) {
                        if (now.scores[p] == least) {
                            return p;
                        }
                    }
                }
                return -9;
            case 6: return past.size();
            default: return -1;
        }
    }

    int count(int what) {
        switch (what) {
            case 0: return wide;
            case 1: return rows;
            case 2: return turn;
            case 3: return open;
            case 4: return players;
            case 5: return teeX < 0 ? -9 : 10 * teeY + teeX;
            case 6: return lain.size();
            case 7: return text.length();
            default: return -1;
        }
    }

    // ---- strokes

    private End stroke(char[][] grid, int fromX, int fromY, int tick, int way, int hard) {
        int x = fromX;
        int y = fromY;
        for (int n = 1; n <= hard; n++) {
            tick++;
            int nx = x + DX[way];
            int ny = y + DY[way];
            boolean stays = !isCell(nx, ny) || grid[ny][nx] == 'x'
                    || grid[ny][nx] == 'm' && tick % turn != open;
            if (stays) {
                way = way < 2 ? way + 2 : way - 2;
                continue;
            }
            x = nx;
            y = ny;
            if (grid[y][x] == 'p') {
                return new End(fromX, fromY, tick, -6);
            }
            if (grid[y][x] == 'h' && hard - n <= 1) {
                return new End(x, y, tick, -5);
            }
        }
        return new End(x, y, tick, 10 * y + x);
    }

    private End struck(int wait, int way, int hard) {
        return stroke(now.grid, now.x, now.y, now.tick + wait, way, hard);
    }

    private static boolean bad(int way, int hard) {
        return way < 0 || way > 3 || hard < 1 || hard > 6;
    }

    private void remember() {
        past.add(now.copy());
        if (past.size() > 10) {
            past.remove(0);
        }
    }

    int strikes(int way, int hard) {
        if (bad(way, hard)) {
            return -1;
        }
        if (now.on < 0) {
            return -2;
        }
        End end = struck(0, way, hard);
        if (end.tick() > 99999) {
            return -2;
        }
        remember();
        now.tick = end.tick();
        now.x = end.x();
        now.y = end.y();
        now.strokes++;
        if (end.code() == -6) {
            now.strokes++;
        }
        if (end.code() == -5 || now.strokes >= 6) {
            now.scores[now.on] = end.code() == -5 && now.strokes <= 6 ? now.strokes : 7;
            now.strokes = 0;
            now.on = now.on == players - 1 ? -9 : now.on + 1;
            now.x = now.on < 0 ? -1 : teeX;
            now.y = now.on < 0 ? -1 : teeY;
        }
        return end.code();
    }

    int waits(int n) {
        if (n < 1 || n > 9) {
            return -1;
        }
        if (now.tick + n > 99999) {
            return -2;
        }
        remember();
        now.tick += n;
        return now.tick;
    }

    private boolean mayTakeBoard(int x, int y) {
        return now.grid[y][x] == 'f' && !(x == teeX && y == teeY) && !(x == now.x && y == now.y);
    }

    int boards(int x, int y, int is) {
        if (!isCell(x, y) || is != 0 && is != 1) {
            return -1;
        }
        if (is == 1 ? !mayTakeBoard(x, y) : now.grid[y][x] != 'x') {
            return -2;
        }
        remember();
        now.grid[y][x] = is == 1 ? 'x' : 'f';
        int boards = 0;
        for (char[] row : now.grid) {
            for (char letter : row) {
                boards += letter == 'x' ? 1 : 0;
            }
        }
        return boards;
    }

    int undo() {
        if (past.isEmpty()) {
            return -2;
        }
        now = past.remove(past.size() - 1);
        return past.size();
    }

    int would(int way, int hard) {
        return bad(way, hard) ? -1 : now.on < 0 ? -2 : struck(0, way, hard).code();
    }

    int when(int way, int hard) {
        if (bad(way, hard)) {
            return -1;
        }
        if (now.on < 0) {
            return -2;
        }
        int bits = 0;
        for (int wait = 0; wait < turn; wait++) {
            bits += struck(wait, way, hard).code() == -5 ? 1 << wait : 0;
        }
        return bits;
    }

    /** What a stroke costs with all behind it, by the costs known so far. */
    private int cost(int[][][] costs, End end) {
        if (end.code() == -5) {
            return 1;
        }
        return (end.code() == -6 ? 2 : 1) + costs[end.y()][end.x()][end.tick() % turn];
    }

    /** The least count of strokes from every cell and tick (by TURN), made smaller until it rests. */
    private int[][][] costs(char[][] grid) {
        int[][][] costs = new int[rows][wide][turn];
        for (int[][] row : costs) {
            for (int[] ticks : row) {
                Arrays.fill(ticks, FAR);
            }
        }
        boolean more = true;
        while (more) {
            more = false;
            for (int y = 0; y < rows; y++) {
                for (int x = 0; x < wide; x++) {
                    if (grid[y][x] == 'x' || grid[y][x] == 'p') {
                        continue;
                    }
                    for (int tick = 0; tick < turn; tick++) {
                        int least = least(grid, costs, x, y, tick);
                        more |= least < costs[y][x][tick];
                        costs[y][x][tick] = Math.min(least, costs[y][x][tick]);
                    }
                }
            }
        }
        return costs;
    }

    private int least(char[][] grid, int[][][] costs, int x, int y, int tick) {
        int least = FAR;
        for (int wait = 0; wait < turn; wait++) {
            for (int way = 0; way < 4; way++) {
                for (int hard = 1; hard <= 6; hard++) {
                    least = Math.min(least, cost(costs, stroke(grid, x, y, tick + wait, way, hard)));
                }
            }
        }
        return least;
    }

    private int homeOf(char[][] grid) {
        return costs(grid)[now.y][now.x][now.tick % turn];
    }

    int home(int k) {
        if (k < -1) {
            return -1;
        }
        if (now.on < 0) {
            return -2;
        }
        int[][][] costs = costs(now.grid);
        int all = costs[now.y][now.x][now.tick % turn];
        if (all >= FAR) {
            return -9;
        }
        if (k == -1) {
            return all;
        }
        List<Integer> row = new ArrayList<>();
        End at = new End(now.x, now.y, now.tick, 0);
        while (at.code() != -5) {
            at = first(costs, at, row);
        }
        return k < row.size() ? row.get(k) : -5;
    }

    private End first(int[][][] costs, End at, List<Integer> row) {
        int due = costs[at.y()][at.x()][at.tick() % turn];
        for (int wait = 0; wait < turn; wait++) {
            for (int way = 0; way < 4; way++) {
                for (int hard = 1; hard <= 6; hard++) {
                    End end = stroke(now.grid, at.x(), at.y(), at.tick() + wait, way, hard);
                    if (cost(costs, end) == due) {
                        row.add(100 * wait + 10 * way + hard);
                        return end;
                    }
                }
            }
        }
        throw new IllegalStateException("no stroke costs as little as it should");
    }

    int ones() {
        int[][][] costs = costs(now.grid);
        int ones = 0;
        for (int y = 0; y < rows; y++) {
            for (int x = 0; x < wide; x++) {
                ones += now.grid[y][x] == 'f' && costs[y][x][0] == 1 ? 1 : 0;
            }
        }
        return ones;
    }

    int odds(int way, int hard, int x, int what) {
        if (bad(way, hard) || x < 0 || x > 5 || what < 0 || what > 1) {
            return -1;
        }
        if (now.on < 0) {
            return -2;
        }
        int upper = 0;
        for (int one = 0; one < 10; one++) {
            int slip = one < x ? 1 : one < 2 * x ? -1 : 0;
            int real = Math.max(1, Math.min(6, hard + slip));
            upper += struck(0, way, real).code() == -5 ? 1 : 0;
        }
        int lower = 1;
        while (upper * lower % 10 != 0) {
            lower++;
        }
        return what == 0 ? upper * lower / 10 : lower;
    }

    // ---- where it lay

    int lay(int x, int y) {
        boolean in = x == -1 && y == -1;
        if (!in && !isCell(x, y)) {
            return -1;
        }
        if (lain.size() == 5) {
            return -3;
        }
        lain.add(in ? -5 : 10 * y + x);
        return lain.size();
    }

    int forget() {
        int had = lain.size();
        lain.clear();
        return had;
    }

    int which(int what) {
        if (what < 0 || what > 1) {
            return -1;
        }
        if (now.on < 0) {
            return -2;
        }
        List<Integer> all = new ArrayList<>();
        for (int way = 0; way < 4; way++) {
            for (int hard = 1; hard <= 6; hard++) {
                int code = struck(0, way, hard).code();
                int lay = code == -6 ? 10 * now.y + now.x : code;
                if (lain.stream().allMatch(one -> one == lay)) {
                    all.add(10 * way + hard);
                }
            }
        }
        return what == 0 ? all.size() : all.isEmpty() ? -9 : all.get(0);
    }

    // ---- players, boards

    int best() {
        int sum = 0;
        int[][][] costs = costs(now.grid);
        for (int p = 0; p < players; p++) {
            if (now.scores[p] > 0) {
                sum += now.scores[p];
            } else if (teeX < 0) {
                sum += 7;
            } else if (p == now.on) {
                int all = now.strokes + costs[now.y][now.x][now.tick % turn];
                sum += all > 6 ? 7 : all;
            } else {
                int all = costs[teeY][teeX][0];
                sum += all > 6 ? 7 : all;
            }
        }
        return sum;
    }

    int board(int what) {
        if (what < 0 || what > 1) {
            return -1;
        }
        if (now.on < 0) {
            return -2;
        }
        int most = homeOf(now.grid);
        int found = -9;
        for (int y = 0; y < rows; y++) {
            for (int x = 0; x < wide; x++) {
                if (what == 0 ? now.grid[y][x] != 'x' : !mayTakeBoard(x, y)) {
                    continue;
                }
                char[][] other = copyOf(now.grid);
                other[y][x] = what == 0 ? 'f' : 'x';
                int home = homeOf(other);
                if (what == 0 ? home < most : home > most) {
                    most = home;
                    found = 10 * y + x;
                }
            }
        }
        return found;
    }

    // ---- kinds, images

    int rate(int kind, int x, int y) {
        if (kind < 0 || kind > 5 || !isCell(x, y)) {
            return -1000000;
        }
        int[] traces = {1, 11, 101, 1011, 10101, 100001};
        trace += traces[kind];
        int on = now.on < 0 ? 0 : now.on;
        int[] rates = {x, x + y, x - now.strokes, 2 * (x + y), x - now.strokes + on, x + now.tick % turn};
        return rates[kind];
    }

    int keep(int image) {
        if (image != 0 && image != 1) {
            return -1;
        }
        images[image] = now.copy();
        return now.tick;
    }

    int back(int image) {
        if (image != 0 && image != 1) {
            return -1;
        }
        if (images[image] == null) {
            return -2;
        }
        now = images[image].copy();
        past.clear();
        return now.tick;
    }

    long trace() {
        return trace;
    }
}
