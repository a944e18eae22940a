import java.util.List;
import java.util.TreeSet;
import java.util.function.IntToLongFunction;
import java.util.function.Supplier;
import java.util.function.ToLongFunction;

/** Tests of single sentences: each is named by its promise and by the words of the document. */
final class Edges {
    static final int BAD = -1;
    static final int STATE = -2;
    static final int FULL = -3;
    static final int NONE = -9;
    static final int NO = -1000000;
    static final int IN = -5;
    static final int SUNK = -6;
    static final int MIN = Integer.MIN_VALUE;
    static final int MAX = Integer.MAX_VALUE;

    private static final TreeSet<Integer> promises = new TreeSet<>();
    private static String document = "";
    private static int sentences = 0;

    private Edges() {
    }

    static void document(String text) {
        document = evenBlanks(text);
    }

    private static String evenBlanks(String text) {
        return text.replaceAll("\\s+", " ");
    }

    /** One test; the words must stand in the document, so that who reads one finds the other. */
    static void sentence(int promise, String words, Runnable test) {
        Due.isTrue("\"" + words + "\" stands in the document", document.contains(evenBlanks(words)));
        Due.test("promise " + promise + ", \"" + words + "\"", test);
        promises.add(promise);
        sentences++;
    }

    static void eachPromiseHasOne(int last) {
        for (int promise = 1; promise <= last; promise++) {
            Due.isTrue("promise " + promise + " has a sentence", promises.contains(promise));
        }
        System.out.println("  " + sentences + " sentences");
    }

    /** A number that may be least .. most: at both ends it is not BAD, beyond them it is. */
    static void bounds(String call, IntToLongFunction asked, int least, int most, long bad) {
        for (int n : new int[] {least, most}) {
            Due.isTrue(call + " with " + n + " is not refused", asked.applyAsLong(n) != bad);
        }
        for (int n : new int[] {least - 1, most + 1, MIN, MAX}) {
            Due.is(call + " with " + n, asked.applyAsLong(n), bad);
        }
    }

    /** As bounds, with each refused call looked at: nothing that can be seen is another behind it. */
    static void boundsOn(String call, Supplier<MillSails> made, Asked asked, int least, int most, long bad) {
        for (int n : new int[] {least, most}) {
            Due.isTrue(call + " with " + n + " is not refused", asked.of(made.get(), n) != bad);
        }
        for (int n : new int[] {least - 1, most + 1, MIN, MAX}) {
            refused(call + " with " + n, made, mill -> asked.of(mill, n), bad);
        }
    }

    /** A call that is due to be refused, and behind which all is shown as without it. */
    static void refused(String call, Supplier<MillSails> made, ToLongFunction<MillSails> asked, long due) {
        Due.is(call, asked.applyAsLong(made.get()), due);
        List<String> before = Shown.of(made);
        List<String> behind = Shown.of(() -> {
            MillSails mill = made.get();
            asked.applyAsLong(mill);
            return mill;
        });
        same(call + " changes nothing", behind, before);
    }

    /** What is only asked changes nothing either (but for THE TRACE, by rate()). */
    static void changesNothing(String call, Supplier<MillSails> made, ToLongFunction<MillSails> asked) {
        refused(call, made, asked, asked.applyAsLong(made.get()));
    }

    static void same(String what, List<String> got, List<String> want) {
        int differ = got.size() == want.size() ? 0 : 1;
        for (int i = 0; i < Math.min(got.size(), want.size()); i++) {
            if (!got.get(i).equals(want.get(i))) {
                differ++;
                System.out.println(what + ": " + got.get(i) + ", but it was " + want.get(i));
            }
        }
        Due.is(what + ": rows that differ", differ, 0);
    }

    /** Rows of answers, as one call with one number gives them from a number on. */
    static void row(String call, IntToLongFunction asked, int from, long... due) {
        for (int i = 0; i < due.length; i++) {
            Due.is(call + " with " + (from + i), asked.applyAsLong(from + i), due[i]);
        }
    }

    interface Asked {
        long of(MillSails mill, int number);
    }

    // ---- objects

    /** A lawn with all there is, played on, looked back at, a text begun: something of everything. */
    static MillSails busy() {
        MillSails mill = Due.told("w5;rfffmf;rfxfpf;rfffhf;rxfffm;t0 0;s4 2;n3;");
        mill.strikes(2, 2);
        mill.strikes(1, 3);
        mill.boards(2, 1, 1);
        mill.keep(0);
        mill.waits(5);
        mill.boards(1, 1, 0);
        mill.strikes(1, 1);
        mill.keep(1);
        mill.strikes(2, 3);
        mill.lay(0, 2);
        mill.lay(-1, -1);
        mill.rate(3, 1, 1);
        Due.type(mill, "n1;w");
        return mill;
    }

    /** As busy, without what was typed. */
    static MillSails busyWithoutText() {
        MillSails mill = busy();
        mill.clear();
        return mill;
    }

    /** All players are done. */
    static MillSails over() {
        MillSails mill = Due.told("w3;rfhf;rfxf;t0 0;n2;");
        mill.waits(2);
        mill.keep(0);
        mill.strikes(1, 1);
        mill.strikes(3, 1);
        mill.strikes(1, 1);
        mill.lay(0, 1);
        mill.rate(5, 0, 0);
        Due.type(mill, "w3");
        return mill;
    }

    /** A lawn without a TEE: nobody is on. */
    static MillSails noTee() {
        MillSails mill = Due.told("w3;rfhf;rfxm;s2 1;n4;");
        mill.boards(0, 0, 1);
        mill.waits(3);
        mill.keep(1);
        mill.boards(1, 1, 0);
        Due.type(mill, "s3 ");
        return mill;
    }

    /** The same call refused the same way of each: a new object, busy, over, without a TEE. */
    static void refusedOfAll(String call, ToLongFunction<MillSails> asked, long due) {
        refused(call + " of a new object", MillSails::new, asked, due);
        refused(call + " of a busy one", Edges::busy, asked, due);
        refused(call + " when it is over", Edges::over, asked, due);
        refused(call + " without a TEE", Edges::noTee, asked, due);
    }

    /** STATE as nobody is on. */
    static void refusedWithNobodyOn(String call, ToLongFunction<MillSails> asked) {
        refused(call + " of a new object", MillSails::new, asked, STATE);
        refused(call + " when it is over", Edges::over, asked, STATE);
        refused(call + " without a TEE", Edges::noTee, asked, STATE);
    }
}
