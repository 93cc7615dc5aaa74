import java.util.function.BooleanSupplier;
import java.util.function.IntSupplier;

/** Answers held against those that are due, and what the tests share to get them. */
abstract class Answers {
    static final int NONE = -1;
    static final int LEAST = Integer.MIN_VALUE;
    static final int GREATEST = Integer.MAX_VALUE;

    /** One beast, one guest, always awake and there. Its image: 5 .. 9 of the guest, 10 .. 14 of the beast. */
    static final String ONE = "beast a wakes 0 to 23 at 1;guest g 1 1 1 comes 0 to 23;";
    /** The like with two of each. */
    static final String TWO = "beast a wakes 0 to 23 at 1;beast b wakes 0 to 23 at 2;"
        + "guest g 1 1 1 comes 0 to 23;guest h 1 1 1 comes 0 to 23;";

    private static int wrong = 0;
    private static int asked = 0;
    /** What the answers are about. */
    static String about = "";

    static void due(String call, int got, int want) {
        asked++;
        if (got != want) {
            wrong++;
            System.out.println(about + ": " + call + " answered " + got + ", due is " + want);
        }
    }

    static void due(String call, boolean got, boolean want) {
        due(call, got ? 1 : 0, want ? 1 : 0);
    }

    static void due(String call, String got, String want) {
        asked++;
        if (!got.equals(want)) {
            wrong++;
            System.out.println(about + ": " + call + " answered " + got + ", due is " + want);
        }
    }

    static int wrong() {
        return wrong;
    }

    static int asked() {
        return asked;
    }

    static void failed(String what) {
        wrong++;
        System.out.println(about + ": " + what);
    }

    static void finish(String allIsWell) {
        System.out.println(wrong == 0 ? allIsWell : wrong + " answers are not as due");
        if (wrong != 0) {
            System.exit(1);
        }
    }

    static Counted with(String text) {
        Counted x = new Counted();
        int statements = x.read(text);
        if (statements < 0) {
            failed("zoo() of " + text + " has fault " + x.fault(0) + " at " + x.fault(1));
        }
        return x;
    }

    static void whole(String text, int statements) {
        due("zoo() of " + text, new Counted().read(text), statements);
    }

    static void faulty(String text, int kind, int place) {
        Counted x = new Counted();
        due("zoo() of " + text, x.read(text), NONE);
        due("fault(0) of " + text, x.fault(0), kind);
        due("fault(1) of " + text, x.fault(1), place);
    }

    /** How beast 0 likes guest 0 by a SUM: traits 7 3 2, tastes 5 1 0 (38 suits). */
    static void likes(String sum, int want) {
        Counted x = with("beast a wakes 0 to 23 at 1;taste a 5 1 0;guest g 7 3 2 comes 0 to 23;likes " + sum + ";");
        due("between(0, 0, 1) by " + sum, x.between(0, 0, 1), want);
    }

    /** Whether beast 0 asks for guest 0 by a TEST: traits 7 3 2, tastes 5 1 0, 6 ushers, no fear. */
    static void may(String test, boolean want) {
        Counted x = with("beast a wakes 0 to 23 at 1;taste a 5 1 0;guest g 7 3 2 comes 0 to 23;may " + test + ";");
        due("asks(0, 0) by " + test, x.asks(0, 0), want ? 0 : NONE);
    }

    /** So many beasts, named ba, bb and on. */
    static String beasts(int count) {
        StringBuilder text = new StringBuilder();
        for (int i = 0; i < count; i++) {
            text.append("beast b").append((char) ('a' + i)).append(" wakes 0 to 23 at 1;");
        }
        return text.toString();
    }

    /** So many guests, named ga, gb and on. */
    static String guests(int count) {
        StringBuilder text = new StringBuilder();
        for (int i = 0; i < count; i++) {
            text.append("guest g").append((char) ('a' + i)).append(" 1 1 1 comes 0 to 23;");
        }
        return text.toString();
    }

    /** So many beasts, each holding the guest of its number (by may); suits / smell is the beast's number and 1. */
    static Counted holders(int count, String likes) {
        StringBuilder text = new StringBuilder();
        for (int i = 1; i <= count; i++) {
            char c = (char) ('a' + i);
            text.append("beast b").append(c).append(" wakes 0 to 23 at 1;taste b").append(c).append(" 0 ").append(i).append(" 0;");
            text.append("guest g").append(c).append(' ').append(10 - i).append(' ').append(i).append(" 0 comes 0 to 23;");
        }
        return with(text + "likes " + likes + ";may suits=smell*smell;");
    }

    static void rounds(Counted x, int[] gets, int[] rounds) {
        for (int b = 0; b < gets.length; b++) {
            int beast = b;
            row("round(" + b + ")", w -> x.round(beast, w), gets[b], rounds[b], b);
        }
    }

    /** The answers of a call for what 0, 1, 2 and on. */
    static void row(String call, java.util.function.IntUnaryOperator made, int... want) {
        for (int what = 0; what < want.length; what++) {
            due(call + " " + what, made.applyAsInt(what), want[what]);
        }
    }

    /** A call that answers NONE, counts one refusal of its kind, and changes nothing. */
    static void refused(Counted x, int kind, String call, IntSupplier made) {
        String before = x.all();
        int[] counts = x.refusals();
        due(call, made.getAsInt(), NONE);
        counts[kind]++;
        for (int k = 0; k < counts.length; k++) {
            due("status(" + k + ") behind " + call, x.status(k), counts[k]);
        }
        due("all behind " + call, x.all(), before);
    }

    static void refusedFlag(Counted x, int kind, String call, BooleanSupplier made) {
        refused(x, kind, call, () -> made.getAsBoolean() ? 1 : NONE);
    }

    /** The tape is empty. */
    static void tapeIsEmpty(String behind, Counted x) {
        due("feed behind " + behind, x.feed(0, 0, 0, 0, 0), 20);
        due("end(0) behind " + behind, x.end(0), true);
    }
}
