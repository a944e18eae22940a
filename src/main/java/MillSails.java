/**
 * A lawn of cells with boards, ponds, a hole and mills whose sails let a ball pass only in some
 * ticks, and players who strike one behind another.
 *
 * <p>A place is held as one number: SIDE times y and x. What is answered is 10 times y and x.
 * Boards are bits of a long, a bit a place. All rows and objects are made by the constructor and
 * used again, so that no call makes anything anew.
 */
public final class MillSails {
    public static final int BAD = -1, STATE = -2, FULL = -3, NONE = -9;
    /** What none is, where a number may be below 0. */
    public static final int NO = -1000000;

    private static final int SIDE = 7;
    private static final int PLACES = SIDE * SIDE;
    private static final int MOST_LETTERS = 150;
    private static final int HIGHEST_LETTER = 255;
    private static final int MOST_PLAYERS = 4;
    private static final int LAST_TICK = 99999;
    private static final int LONGEST_WAIT = 9;
    private static final int WAYS = 4;
    private static final int HARDEST = 6;
    private static final int MOST_STROKES = 6;
    private static final int LOST = 7;
    private static final int KNOWN = 10;
    private static final int IMAGES = 2;
    private static final int MOST_LAY = 5;
    private static final int KINDS = 6;

    /** What a cell is. */
    private static final int GREEN = 0, PLANK = 1, POND = 2, HOLE = 3, MILL = 4;
    /** A tick in which the ball went to no other cell. */
    private static final int STAYED = -1;
    /** How a stroke ends, if it does not end on a cell. */
    private static final int IN = -5, SUNK = -6;
    private static final int NOT_SO_MANY = -5;
    /** More strokes than any way home has. */
    private static final int NO_WAY = 1000;
    /** Among the bits of places: the ball is in. */
    private static final long HOME_BIT = 1L << 62;

    private final Text text = new Text();
    private Lawn told = new Lawn();
    private Lawn draft = new Lawn();
    private final Play play = new Play();
    private final Play[] past = new Play[KNOWN];
    private int pastNext;
    private int pastCount;
    private final Play[] images = new Play[IMAGES];
    private final boolean[] kept = new boolean[IMAGES];
    private final int[] lain = new int[MOST_LAY];
    private int lainCount;
    private final Roll roll = new Roll();
    private final Reach reach = new Reach();
    private long traced;

    public MillSails() {
        for (int i = 0; i < KNOWN; i++) {
            past[i] = new Play();
        }
        for (int i = 0; i < IMAGES; i++) {
            images[i] = new Play();
        }
        play.begin(told);
    }

    // ---- the lawn

    public int type(int letter) {
        if (letter < 0 || letter > HIGHEST_LETTER) {
            return BAD;
        }
        return text.add((char) letter) ? text.length : FULL;
    }

    public int clear() {
        int had = text.length;
        text.length = 0;
        return had;
    }

    public int lawn() {
        int answer = text.tell(draft);
        if (answer < 0) {
            return answer;
        }
        Lawn older = told;
        told = draft;
        draft = older;
        text.length = 0;
        beginAnew();
        return answer;
    }

    private void beginAnew() {
        play.begin(told);
        lainCount = 0;
        pastCount = 0;
        for (int i = 0; i < IMAGES; i++) {
            kept[i] = false;
        }
    }

    public int cell(int x, int y) {
        int at = told.placeOf(x, y);
        return at < 0 ? BAD : kindNow(at);
    }

    private int kindNow(int at) {
        return play.hasPlank(at) ? PLANK : told.kindOf(at);
    }

    public int score(int p) {
        return p < 0 || p >= told.players ? BAD : play.scoreOf(p);
    }

    public int now(int what) {
        switch (what) {
            case 0: return play.tick;
            case 1: return play.on;
            case 2: return answerOf(play.ball);
            case 3: return play.strokes;
            case 4: return told.isOpen(play.tick) ? 1 : 0;
            case 5: return play.leader(told.players);
            case 6: return pastCount;
            default: return BAD;
        }
    }

    /** How a place is answered: 10 times y and x; NONE stays NONE. */
    private static int answerOf(int at) {
        return at < 0 ? NONE : at / SIDE * 10 + at % SIDE;
    }

    // ---- what is done

    public int strikes(int way, int hard) {
        if (!isStroke(way, hard)) {
            return BAD;
        }
        if (play.on < 0) {
            return STATE;
        }
        int end = struck(0, way, hard);
        if (roll.tick > LAST_TICK) {
            return STATE;
        }
        remember();
        play.tick = roll.tick;
        play.ball = roll.at;
        play.strokes += end == SUNK ? 2 : 1;
        if (end == IN) {
            play.finish(Math.min(LOST, play.strokes), told);
        } else if (play.strokes >= MOST_STROKES) {
            play.finish(LOST, told);
        }
        return end;
    }

    private static boolean isStroke(int way, int hard) {
        return way >= 0 && way < WAYS && hard >= 1 && hard <= HARDEST;
    }

    /** Rolls the ball of who is on behind a wait: IN, SUNK, or where it lies. */
    private int struck(int wait, int way, int hard) {
        return roll.strike(told, play.planks, play.ball, play.tick + wait, way, hard);
    }

    private void remember() {
        past[pastNext].copyFrom(play);
        pastNext = (pastNext + 1) % KNOWN;
        pastCount = Math.min(KNOWN, pastCount + 1);
    }

    public int waits(int n) {
        if (n < 1 || n > LONGEST_WAIT) {
            return BAD;
        }
        if (play.tick + n > LAST_TICK) {
            return STATE;
        }
        remember();
        play.tick += n;
        return play.tick;
    }

    public int boards(int x, int y, int is) {
        int at = told.placeOf(x, y);
        if (at < 0 || is < 0 || is > 1) {
            return BAD;
        }
        if (!mayChange(at, is)) {
            return STATE;
        }
        remember();
        play.planks ^= 1L << at;
        return Long.bitCount(play.planks);
    }

    /** Whether at a place a board can be set (1), taken (0). */
    private boolean mayChange(int at, int is) {
        if (is == 0) {
            return play.hasPlank(at);
        }
        return told.isOn(at) && kindNow(at) == GREEN && at != told.tee && at != play.ball;
    }

    public int undo() {
        if (pastCount == 0) {
            return STATE;
        }
        pastNext = (pastNext + KNOWN - 1) % KNOWN;
        pastCount--;
        play.copyFrom(past[pastNext]);
        return pastCount;
    }

    // ---- strokes

    public int would(int way, int hard) {
        if (!isStroke(way, hard)) {
            return BAD;
        }
        return play.on < 0 ? STATE : struck(0, way, hard);
    }

    public int when(int way, int hard) {
        if (!isStroke(way, hard)) {
            return BAD;
        }
        if (play.on < 0) {
            return STATE;
        }
        int bits = 0;
        for (int wait = 0; wait < told.turn; wait++) {
            if (struck(wait, way, hard) == IN) {
                bits |= 1 << wait;
            }
        }
        return bits;
    }

    public int home(int k) {
        if (k < -1) {
            return BAD;
        }
        if (play.on < 0) {
            return STATE;
        }
        reach.survey(told, play.planks);
        int all = reach.fewest(play.ball);
        if (all == NO_WAY) {
            return NONE;
        }
        if (k == -1) {
            return all;
        }
        return k >= all ? NOT_SO_MANY : strokeHome(k, all);
    }

    private int strokeHome(int k, int all) {
        int at = play.ball;
        int tick = play.tick;
        int code = NONE;
        for (int done = 0; done <= k; done++) {
            code = firstNearer(at, tick, all - done);
            at = roll.at;
            tick = roll.tick;
        }
        return code;
    }

    /**
     * The first stroke by which the way home is one stroke shorter; the roll is left as that stroke
     * ends. A stroke into a pond is never on the way home: a wait does the same and costs nothing.
     */
    private int firstNearer(int at, int tick, int fewest) {
        for (int wait = 0; wait < told.turn; wait++) {
            for (int way = 0; way < WAYS; way++) {
                for (int hard = 1; hard <= HARDEST; hard++) {
                    int end = roll.strike(told, play.planks, at, tick + wait, way, hard);
                    if (end == IN || reach.fewest(roll.at) == fewest - 1) {
                        return 100 * wait + 10 * way + hard;
                    }
                }
            }
        }
        return NONE;
    }

    public int ones() {
        reach.survey(told, play.planks);
        int count = 0;
        for (int at = 0; at < PLACES; at++) {
            if (kindNow(at) == GREEN && reach.fewest(at) == 1) {
                count++;
            }
        }
        return count;
    }

    public int odds(int way, int hard, int x, int what) {
        if (!isStroke(way, hard) || x < 0 || x > 5 || what < 0 || what > 1) {
            return BAD;
        }
        if (play.on < 0) {
            return STATE;
        }
        int upper = x * inOne(way, Math.min(HARDEST, hard + 1))
                + x * inOne(way, Math.max(1, hard - 1))
                + (10 - 2 * x) * inOne(way, hard);
        int both = commonDivisor(upper);
        return (what == 0 ? upper : 10) / both;
    }

    private int inOne(int way, int hard) {
        return struck(0, way, hard) == IN ? 1 : 0;
    }

    /** The greatest number by which 10 and n (0 .. 10) can be divided; never below 1. */
    private static int commonDivisor(int n) {
        for (int by = 10; by > 1; by--) {
            if (10 % by == 0 && n % by == 0) {
                return by;
            }
        }
        return 1;
    }

    // ---- where it lay

    public int lay(int x, int y) {
        boolean in = x == -1 && y == -1;
        int at = told.placeOf(x, y);
        if (!in && at < 0) {
            return BAD;
        }
        if (lainCount >= MOST_LAY) {
            return FULL;
        }
        lain[lainCount] = in ? IN : at;
        lainCount++;
        return lainCount;
    }

    public int forget() {
        int had = lainCount;
        lainCount = 0;
        return had;
    }

    public int which(int what) {
        if (what < 0 || what > 1) {
            return BAD;
        }
        if (play.on < 0) {
            return STATE;
        }
        int count = 0;
        int first = NONE;
        for (int way = 0; way < WAYS; way++) {
            for (int hard = 1; hard <= HARDEST; hard++) {
                if (!allLay(way, hard)) {
                    continue;
                }
                count++;
                first = first == NONE ? 10 * way + hard : first;
            }
        }
        return what == 0 ? count : first;
    }

    private boolean allLay(int way, int hard) {
        int end = struck(0, way, hard) == IN ? IN : roll.at;
        for (int i = 0; i < lainCount; i++) {
            if (lain[i] != end) {
                return false;
            }
        }
        return true;
    }

    // ---- players, boards

    public int best() {
        reach.survey(told, play.planks);
        int sum = 0;
        for (int p = 0; p < told.players; p++) {
            int done = play.scoreOf(p);
            sum += done > 0 ? done : Math.min(LOST, leastStrokes(p));
        }
        return sum;
    }

    private int leastStrokes(int p) {
        return p == play.on ? play.strokes + reach.fewest(play.ball) : reach.fewest(told.tee);
    }

    public int board(int what) {
        if (what < 0 || what > 1) {
            return BAD;
        }
        if (play.on < 0) {
            return STATE;
        }
        reach.survey(told, play.planks);
        int length = reach.fewest(play.ball);
        int found = NONE;
        for (int at = 0; at < PLACES; at++) {
            if (what == 1 && length == NO_WAY) {
                break; // nothing is longer than none at all
            }
            int other = mayChange(at, what) ? homeIfChanged(at) : length;
            if (what == 0 ? other < length : other > length) {
                length = other;
                found = at;
            }
        }
        return answerOf(found);
    }

    /** The way home if at a place a board were set or taken; what can be reached is put back. */
    private int homeIfChanged(int at) {
        reach.surveyBeside(told, play.planks ^ 1L << at, at);
        reach.measure();
        int length = reach.fewest(play.ball);
        reach.surveyBeside(told, play.planks, at);
        return length;
    }

    // ---- kinds, images

    public int rate(int kind, int x, int y) {
        if (kind < 0 || kind >= KINDS || told.placeOf(x, y) < 0) {
            return NO;
        }
        switch (kind) {
            case 1: return asBoard(x, y);
            case 2: return asPond(x);
            case 3: return asMill(x, y);
            case 4: return asLeaf(x);
            case 5: return asPipe(x);
            default: return asCell(x);
        }
    }

    private int asCell(int x) {
        traced += 1;
        return x;
    }

    private int asBoard(int x, int y) {
        traced += 10;
        return asCell(x) + y;
    }

    private int asPond(int x) {
        traced += 100;
        return asCell(x) - play.strokes;
    }

    private int asMill(int x, int y) {
        traced += 1000;
        return 2 * asBoard(x, y);
    }

    private int asLeaf(int x) {
        traced += 10000;
        return asPond(x) + Math.max(0, play.on);
    }

    private int asPipe(int x) {
        traced += 100000;
        return asCell(x) + told.leftOver(play.tick);
    }

    public int keep(int image) {
        if (image < 0 || image >= IMAGES) {
            return BAD;
        }
        images[image].copyFrom(play);
        kept[image] = true;
        return play.tick;
    }

    public int back(int image) {
        if (image < 0 || image >= IMAGES) {
            return BAD;
        }
        if (!kept[image]) {
            return STATE;
        }
        play.copyFrom(images[image]);
        pastCount = 0;
        return play.tick;
    }

    public int count(int what) {
        switch (what) {
            case 0: return told.wide;
            case 1: return told.rows;
            case 2: return told.turn;
            case 3: return told.open;
            case 4: return told.players;
            case 5: return answerOf(told.tee);
            case 6: return lainCount;
            case 7: return text.length;
            default: return BAD;
        }
    }

    public long trace() {
        return traced;
    }

    /** What a text has told: nothing of it changes until the next text is read. */
    private static final class Lawn {
        int wide, rows, turn, open, players, tee;
        boolean hasHole;
        long planks;
        final int[] ground = new int[PLACES];

        Lawn() {
            blank();
        }

        void blank() {
            wide = 0;
            rows = 0;
            turn = 3;
            open = 0;
            players = 2;
            tee = NONE;
            hasHole = false;
            planks = 0;
            for (int at = 0; at < PLACES; at++) {
                ground[at] = GREEN;
            }
        }

        int placeOf(int x, int y) {
            return x < 0 || x >= wide || y < 0 || y >= rows ? NONE : y * SIDE + x;
        }

        boolean isOn(int at) {
            return at >= 0 && placeOf(at % SIDE, at / SIDE) == at;
        }

        /** What a cell is without the boards that can be taken. */
        int kindOf(int at) {
            return at < 0 || at >= PLACES ? PLANK : ground[at];
        }

        /** The place next to a place, or NONE off the lawn. */
        int beside(int at, int way) {
            int x = at % SIDE;
            int y = at / SIDE;
            switch (way) {
                case 0: return y > 0 ? at - SIDE : NONE;
                case 1: return x + 1 < wide ? at + 1 : NONE;
                case 2: return y + 1 < rows ? at + SIDE : NONE;
                default: return x > 0 ? at - 1 : NONE;
            }
        }

        int leftOver(int tick) {
            return turn > 0 ? tick % turn : 0;
        }

        boolean isOpen(int tick) {
            return turn > 0 && tick % turn == open;
        }

        /** Puts the next cell of the row that is being told; false if the letter is none. */
        boolean put(int x, int letter) {
            int at = rows * SIDE + x;
            if (at < 0 || at >= PLACES) {
                return false;
            }
            switch (letter) {
                case 'f': return true;
                case 'x':
                    planks |= 1L << at;
                    return true;
                case 'p':
                    ground[at] = POND;
                    return true;
                case 'm':
                    ground[at] = MILL;
                    return true;
                case 'h':
                    ground[at] = HOLE;
                    boolean first = !hasHole;
                    hasHole = true;
                    return first;
                default: return false;
            }
        }

        boolean mayBeTee(int at) {
            return at >= 0 && kindOf(at) == GREEN && (planks >>> at & 1) == 0;
        }
    }

    /** The text, and the reading of it: where a reading stops, start is the fault. */
    private static final class Text {
        static final int END = -1, ODD = -2, NUMBER = -3;

        final char[] letters = new char[MOST_LETTERS];
        int length;
        int behind, start, token, value;
        int items;
        boolean sailsTold, playersTold;

        boolean add(char letter) {
            if (length >= MOST_LETTERS) {
                return false;
            }
            letters[length] = letter;
            length++;
            return true;
        }

        /** Reads all into a lawn: how many items there are, or -10 less the fault. */
        int tell(Lawn lawn) {
            lawn.blank();
            behind = 0;
            items = 0;
            sailsTold = false;
            playersTold = false;
            read();
            for (int n = 0; n < MOST_LETTERS && token != END; n++) {
                if (!item(lawn)) {
                    return -10 - start;
                }
                items++;
                read();
            }
            return items;
        }

        boolean item(Lawn lawn) {
            switch (token) {
                case 'w': return width(lawn);
                case 'r': return row(lawn);
                case 't': return teePlace(lawn);
                case 's': return sails(lawn);
                case 'n': return players(lawn);
                default: return false;
            }
        }

        boolean width(Lawn lawn) {
            if (items != 0 || !number(2, SIDE)) {
                return false;
            }
            lawn.wide = value;
            return ends();
        }

        boolean row(Lawn lawn) {
            if (lawn.wide == 0 || lawn.rows >= SIDE || lawn.tee != NONE) {
                return false;
            }
            for (int x = 0; x < lawn.wide; x++) {
                read();
                if (!lawn.put(x, token)) {
                    return false;
                }
            }
            lawn.rows++;
            return ends();
        }

        boolean teePlace(Lawn lawn) {
            if (lawn.tee != NONE || !number(0, lawn.wide - 1)) {
                return false;
            }
            int x = value;
            if (!number(0, lawn.rows - 1) || !lawn.mayBeTee(lawn.placeOf(x, value))) {
                return false;
            }
            lawn.tee = lawn.placeOf(x, value);
            return ends();
        }

        boolean sails(Lawn lawn) {
            if (sailsTold || !number(2, 6)) {
                return false;
            }
            sailsTold = true;
            lawn.turn = value;
            if (!number(0, lawn.turn - 1)) {
                return false;
            }
            lawn.open = value;
            return ends();
        }

        boolean players(Lawn lawn) {
            if (playersTold || !number(1, MOST_PLAYERS)) {
                return false;
            }
            playersTold = true;
            lawn.players = value;
            return ends();
        }

        boolean number(int least, int most) {
            read();
            return token == NUMBER && value >= least && value <= most;
        }

        boolean ends() {
            read();
            return token == ';';
        }

        /** The next token; behind the last one END, which starts where the text ends. */
        void read() {
            while (behind < length && letters[behind] == ' ') {
                behind++;
            }
            start = behind;
            if (behind >= length) {
                token = END;
                return;
            }
            char first = letters[behind];
            if (!isDigit(first)) {
                behind++;
                token = first >= 'a' && first <= 'z' || first == ';' ? first : ODD;
                return;
            }
            value = 0;
            while (behind < length && isDigit(letters[behind])) {
                // Above 99 it is no number at all, so it need not be told further.
                value = Math.min(100, 10 * value + letters[behind] - '0');
                behind++;
            }
            boolean zeroAhead = first == '0' && behind > start + 1;
            token = zeroAhead || value > 99 ? ODD : NUMBER;
        }

        static boolean isDigit(char letter) {
            return letter >= '0' && letter <= '9';
        }
    }

    /** What changes in play, and what an image keeps. */
    private static final class Play {
        int tick, ball, strokes, on;
        long planks;
        final int[] scores = new int[MOST_PLAYERS];

        void begin(Lawn lawn) {
            tick = 0;
            planks = lawn.planks;
            strokes = 0;
            ball = lawn.tee;
            on = lawn.tee < 0 ? NONE : 0;
            for (int p = 0; p < MOST_PLAYERS; p++) {
                scores[p] = 0;
            }
        }

        void copyFrom(Play other) {
            tick = other.tick;
            planks = other.planks;
            strokes = other.strokes;
            ball = other.ball;
            on = other.on;
            for (int p = 0; p < MOST_PLAYERS; p++) {
                scores[p] = other.scores[p];
            }
        }

        boolean hasPlank(int at) {
            return at >= 0 && (planks >>> at & 1) != 0;
        }

        int scoreOf(int p) {
            return p < 0 || p >= MOST_PLAYERS ? 0 : scores[p];
        }

        int leader(int players) {
            int found = NONE;
            for (int p = 0; p < players; p++) {
                if (scoreOf(p) > 0 && (found == NONE || scoreOf(p) < scoreOf(found))) {
                    found = p;
                }
            }
            return found;
        }

        /** Who is on is done; the next one is on, if there is one. */
        void finish(int points, Lawn lawn) {
            if (on >= 0 && on < MOST_PLAYERS) {
                scores[on] = points;
            }
            boolean more = on + 1 < lawn.players;
            on = more ? on + 1 : NONE;
            ball = more ? lawn.tee : NONE;
            strokes = 0;
        }
    }

    /** A ball that rolls. */
    private static final class Roll {
        int at, tick, way;
        /** Whether it came upon a mill; if not, the ticks do not matter to it. */
        boolean metMill;

        void start(int from, int fromTick, int firstWay) {
            at = from;
            tick = fromTick;
            way = firstWay;
            metMill = false;
        }

        /** One tick: what the ball went to, or STAYED. */
        int advance(Lawn lawn, long planks) {
            tick++;
            int next = lawn.beside(at, way);
            boolean shut = next < 0 || (planks >>> next & 1) != 0;
            int kind = lawn.kindOf(next);
            if (!shut && kind == MILL) {
                metMill = true;
                shut = !lawn.isOpen(tick);
            }
            if (shut) {
                way = (way + 2) % WAYS;
                return STAYED;
            }
            at = next;
            return kind;
        }

        /** A whole stroke: IN, SUNK, or where the ball lies as it is answered. */
        int strike(Lawn lawn, long planks, int from, int fromTick, int firstWay, int hard) {
            start(from, fromTick, firstWay);
            for (int left = hard - 1; left >= 0; left--) {
                int met = advance(lawn, planks);
                if (met == HOLE && left <= 1) {
                    return IN;
                }
                if (met == POND) {
                    at = from;
                    return SUNK;
                }
            }
            return answerOf(at);
        }
    }

    /**
     * Where one stroke, behind some wait, can bring a ball from each place, and how many strokes
     * the way home has from there. A ball rolls in its row or its column alone, so a board more or
     * less changes nothing but those two.
     */
    private static final class Reach {
        final long[] across = new long[PLACES];
        final long[] upright = new long[PLACES];
        final int[] far = new int[PLACES];
        final Roll ball = new Roll();

        void survey(Lawn lawn, long planks) {
            for (int at = 0; at < PLACES; at++) {
                across[at] = spread(lawn, planks, at, 1) | spread(lawn, planks, at, 3);
                upright[at] = spread(lawn, planks, at, 0) | spread(lawn, planks, at, 2);
            }
            measure();
        }

        /** What a board more or less at one place changes; nothing is measured anew. */
        void surveyBeside(Lawn lawn, long planks, int changed) {
            for (int i = 0; i < SIDE; i++) {
                int inRow = changed - changed % SIDE + i;
                int inColumn = changed % SIDE + SIDE * i;
                across[inRow] = spread(lawn, planks, inRow, 1) | spread(lawn, planks, inRow, 3);
                upright[inColumn] = spread(lawn, planks, inColumn, 0) | spread(lawn, planks, inColumn, 2);
            }
        }

        /** Where a ball comes to one way and back; from where no ball can lie, nowhere. */
        long spread(Lawn lawn, long planks, int at, int way) {
            boolean shut = !lawn.isOn(at) || (planks >>> at & 1) != 0;
            if (shut || lawn.kindOf(at) == POND) {
                return 0;
            }
            long found = 0;
            for (int wait = 0; wait < lawn.turn; wait++) {
                found |= course(lawn, planks, at, wait, way);
                if (!ball.metMill) {
                    break;
                }
            }
            return found;
        }

        /** All places where a stroke can end. Who comes to the hole can be in by a weaker one. */
        long course(Lawn lawn, long planks, int at, int tick, int way) {
            ball.start(at, tick, way);
            long found = 0;
            for (int hard = 1; hard <= HARDEST; hard++) {
                int met = ball.advance(lawn, planks);
                if (met == POND) {
                    return found;
                }
                if (met == HOLE) {
                    return HOME_BIT;
                }
                found |= 1L << ball.at;
            }
            return found;
        }

        /** From the hole outwards: each round finds the places that are one stroke farther. */
        void measure() {
            for (int at = 0; at < PLACES; at++) {
                far[at] = NO_WAY;
            }
            long nearer = HOME_BIT;
            for (int strokes = 1; strokes <= PLACES && nearer != 0; strokes++) {
                long found = 0;
                for (int at = 0; at < PLACES; at++) {
                    if (far[at] == NO_WAY && ((across[at] | upright[at]) & nearer) != 0) {
                        far[at] = strokes;
                        found |= 1L << at;
                    }
                }
                nearer = found;
            }
        }

        int fewest(int at) {
            return at < 0 || at >= PLACES ? NO_WAY : far[at];
        }
    }
}
