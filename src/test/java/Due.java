/** What the tests share: objects told by a text, and the counting of answers that are not due. */
final class Due {
    private static int asked = 0;
    private static int wrong = 0;

    private Due() {
    }

    static void is(String call, long got, long want) {
        asked++;
        if (got != want) {
            wrong++;
            System.out.println(call + " answered " + got + ", due is " + want);
        }
    }

    static void isTrue(String what, boolean is) {
        is(what, is ? 1 : 0, 1);
    }

    /** One test by its name: it is told that it ran, how many answers it looked at, how it went. */
    static void test(String name, Runnable test) {
        int askedBefore = asked;
        int wrongBefore = wrong;
        test.run();
        int looked = asked - askedBefore;
        isTrue(name + " looks at an answer", looked > 0);
        System.out.println("  " + (wrong == wrongBefore ? "ok" : "NOT AS DUE") + " " + name + ": " + looked + " answers");
    }

    static void type(MillSails mill, String text) {
        for (int i = 0; i < text.length(); i++) {
            mill.type(text.charAt(i));
        }
    }

    /** A new object that a text has told; the text must be without a fault. */
    static MillSails told(String text) {
        MillSails mill = new MillSails();
        type(mill, text);
        int items = mill.lawn();
        if (items < 0) {
            throw new IllegalStateException("fault " + items + " in " + text);
        }
        return mill;
    }

    /** Says how it went; exit code 1 if an answer was not due. */
    static void end(String name) {
        System.out.println(name + ": " + asked + " answers looked at, " + wrong + " not as due");
        if (wrong != 0) {
            System.exit(1);
        }
    }
}
