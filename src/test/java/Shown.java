import java.util.ArrayList;
import java.util.List;
import java.util.function.Supplier;

/**
 * All that the calls of an object show, in parts. Each part is asked of an object of its own, made
 * the same way, so that a part may change what it asks and none comes near 512 calls.
 */
final class Shown {
    private static final int DEEPEST_UNDO = 11;

    private final List<String> rows = new ArrayList<>();

    private Shown() {
    }

    static List<String> of(Supplier<MillSails> made) {
        Shown shown = new Shown();
        shown.things("", made.get());
        shown.strokes(made.get());
        shown.odds(made.get());
        for (int n = 1; n <= DEEPEST_UNDO; n++) {
            shown.undone(made.get(), n);
        }
        for (int image = 0; image <= 1; image++) {
            MillSails mill = made.get();
            shown.row("back(" + image + ")", mill.back(image));
            shown.things("behind back(" + image + ") ", mill);
        }
        shown.text(made.get(), made.get(), made.get());
        shown.lay(made.get());
        return shown.rows;
    }

    private void row(String call, long answer) {
        rows.add(call + " = " + answer);
    }

    private void things(String when, MillSails mill) {
        for (int y = -1; y <= 7; y++) {
            for (int x = -1; x <= 7; x++) {
                row(when + "cell(" + x + ", " + y + ")", mill.cell(x, y));
            }
        }
        for (int n = -1; n <= 8; n++) {
            row(when + "score(" + n + ")", mill.score(n));
            row(when + "now(" + n + ")", mill.now(n));
            row(when + "count(" + n + ")", mill.count(n));
        }
        row(when + "trace()", mill.trace());
    }

    private void strokes(MillSails mill) {
        for (int way = 0; way <= 3; way++) {
            for (int hard = 1; hard <= 6; hard++) {
                row("would(" + way + ", " + hard + ")", mill.would(way, hard));
                row("when(" + way + ", " + hard + ")", mill.when(way, hard));
            }
        }
        for (int k = -1; k <= 8; k++) {
            row("home(" + k + ")", mill.home(k));
        }
        for (int what = 0; what <= 1; what++) {
            row("which(" + what + ")", mill.which(what));
            row("board(" + what + ")", mill.board(what));
        }
        row("ones()", mill.ones());
        row("best()", mill.best());
        for (int kind = 0; kind <= 5; kind++) {
            row("rate(" + kind + ", 1, 1)", mill.rate(kind, 1, 1));
        }
    }

    private void odds(MillSails mill) {
        for (int way = 0; way <= 3; way++) {
            for (int hard = 1; hard <= 6; hard++) {
                row("odds(" + way + ", " + hard + ", 3, 0)", mill.odds(way, hard, 3, 0));
                row("odds(" + way + ", " + hard + ", 3, 1)", mill.odds(way, hard, 3, 1));
            }
        }
    }

    private void undone(MillSails mill, int times) {
        for (int n = 1; n <= times; n++) {
            row("undo() " + n, mill.undo());
        }
        things("behind " + times + " undo() ", mill);
    }

    private void text(MillSails read, MillSails emptied, MillSails typed) {
        row("lawn()", read.lawn());
        things("behind lawn() ", read);
        row("clear()", emptied.clear());
        things("behind clear() ", emptied);
        row("type(32)", typed.type(32));
    }

    private void lay(MillSails mill) {
        for (int n = 1; n <= 6; n++) {
            row("lay(-1, -1)", mill.lay(-1, -1));
            row("which(0)", mill.which(0));
        }
        row("forget()", mill.forget());
        row("which(0)", mill.which(0));
    }
}
