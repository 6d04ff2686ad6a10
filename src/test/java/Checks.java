import java.util.NoSuchElementException;

/** What the tests share: tests that are told by a name, answers that are compared, and gardens to begin with. */
abstract class Checks {
    static final Class<IllegalArgumentException> ARGUMENT = IllegalArgumentException.class;
    static final Class<UnsupportedOperationException> REFUSED = UnsupportedOperationException.class;
    static final Class<IndexOutOfBoundsException> INDEX = IndexOutOfBoundsException.class;
    static final Class<NoSuchElementException> MISSING = NoSuchElementException.class;
    static final Class<IllegalStateException> STATE = IllegalStateException.class;
    static final Class<ArithmeticException> ARITHMETIC = ArithmeticException.class;
    static final int LEAST = Integer.MIN_VALUE;
    static final int MOST = Integer.MAX_VALUE;

    private static String name = "";
    private static int tests;
    private static int checks;
    private static int wrong;

    interface Call {
        void make();
    }

    interface Maker {
        MonkMarbles make();
    }

    interface Use {
        void on(MonkMarbles x);
    }

    /** Runs one test; an exception that nobody awaited is a fault of the class, not the end of the other tests. */
    static void test(String told, Call body) {
        name = told;
        tests++;
        try {
            body.make();
        } catch (RuntimeException thrown) {
            fail("ended by " + thrown + " at " + thrown.getStackTrace()[0]);
        }
    }

    /** Tells how many tests there were; ends with exit code 1 if something was wrong. */
    static void end() {
        System.out.println(tests + " tests, " + checks + " checks, " + wrong + " wrong");
        if (wrong != 0) {
            System.exit(1);
        }
    }

    static void fail(String message) {
        wrong++;
        System.out.println(name + ": " + message);
    }

    static void is(String what, double got, double want) {
        checks++;
        if (got != want) {
            fail(what + " is " + got + ", due is " + want);
        }
    }

    static void is(String what, boolean got, boolean want) {
        is(what, got ? 1 : 0, want ? 1 : 0);
    }

    static void is(String what, String got, String want) {
        checks++;
        if (!got.equals(want)) {
            fail(what + " is " + got + ", due is " + want);
        }
    }

    static void fails(String what, Class<? extends RuntimeException> due, Call call) {
        checks++;
        try {
            call.make();
        } catch (RuntimeException thrown) {
            if (thrown.getClass() != due) {
                fail(what + " throws " + thrown + ", due is " + due);
            }
            return;
        }
        fail(what + " throws nothing, due is " + due);
    }

    static void refused(MonkMarbles x, String what, int reason, int detail, Call call) {
        fails(what, REFUSED, call);
        is(what + " reason", x.refusal(false), reason);
        is(what + " detail", x.refusal(true), detail);
    }

    /** A call that throws and leaves all as it is. */
    static void stays(String what, Class<? extends RuntimeException> due, Maker maker, Use use) {
        MonkMarbles x = maker.make();
        String before = stateOf(x) + besidesOf(x) + reasonOf(x);
        fails(what, due, () -> use.on(x));
        is("all behind " + what, stateOf(x) + besidesOf(x) + reasonOf(x), before);
    }

    /** A call that is refused: its reason is kept, and all else is left as it is. */
    static void staysRefused(String what, int reason, int detail, Maker maker, Use use) {
        MonkMarbles x = maker.make();
        String before = stateOf(x) + besidesOf(x);
        refused(x, what, reason, detail, () -> use.on(x));
        is("all behind " + what, stateOf(x) + besidesOf(x), before);
    }

    /** A text that is not carried out: the input is empty, the error position is as told, and all else stays. */
    static void staysBehindRun(String text, Class<? extends RuntimeException> due, int position, Maker maker) {
        MonkMarbles x = maker.make();
        String before = stateOf(x) + written(x);
        type(x, text);
        fails("run of " + text, due, x::run);
        is("error position of " + text, x.errorPosition(), position);
        is("input behind " + text, x.account(8), 0);
        is("all behind " + text, stateOf(x) + written(x), before);
    }

    /** What changes can change, as far as it can be asked, and how many changes can be undone. */
    static String stateOf(MonkMarbles x) {
        StringBuilder out = new StringBuilder("pits");
        for (int pit = 0; pit < x.account(0); pit++) {
            out.append(' ').append(x.pitOf(pit, 0));
        }
        out.append(", digits");
        for (int take = 1; take <= 6; take++) {
            out.append(' ').append(x.digitOf(take));
        }
        out.append(", turn ").append(x.turn()).append(", monks");
        for (int part = 0; part < 8; part++) {
            out.append(' ').append(x.monkOf(part / 4, part % 4));
        }
        out.append(", accounts");
        for (int what = 0; what < 10; what++) {
            out.append(' ').append(what == 8 ? "-" : x.account(what));
        }
        out.append(", values");
        for (int marbles : new int[] {1, 2, 7, 30}) {
            out.append(' ').append(x.value(marbles, false)).append('=').append(x.value(marbles, true));
        }
        return out.append(", sum ").append(x.sum()).toString();
    }

    /** What is neither undone nor saved, but for the reason. */
    static String besidesOf(MonkMarbles x) {
        return ", input " + x.account(8) + ", error " + x.errorPosition() + ", line " + written(x);
    }

    static String reasonOf(MonkMarbles x) {
        try {
            return ", reason " + x.refusal(false) + " " + x.refusal(true);
        } catch (NoSuchElementException none) {
            return ", no reason";
        }
    }

    /** The line that was written last. */
    static String written(MonkMarbles x) {
        StringBuilder out = new StringBuilder();
        try {
            while (out.length() < 1000) {
                out.append(x.character(out.length()));
            }
        } catch (IndexOutOfBoundsException end) {
            return out.toString();
        }
        return "a line without end";
    }

    static MonkMarbles with(int... pits) {
        MonkMarbles x = new MonkMarbles();
        for (int pit : pits) {
            x.pit(pit);
        }
        return x;
    }

    /** A garden with six digits; digits that are so already are let be. */
    static MonkMarbles withDigits(int... digits) {
        MonkMarbles x = new MonkMarbles();
        for (int take = 1; take <= 6; take++) {
            if (x.digitOf(take) != digits[take - 1]) {
                x.digit(take, digits[take - 1]);
            }
        }
        return x;
    }

    /** A garden where only one number may be taken, by its digit. */
    static MonkMarbles withOnly(int take, int digit) {
        int[] digits = new int[6];
        digits[take - 1] = digit;
        return withDigits(digits);
    }

    static MonkMarbles withoutDigits() {
        return withDigits(0, 0, 0, 0, 0, 0);
    }

    /** A garden with so many pits of one marble. */
    static MonkMarbles ones(int pits) {
        MonkMarbles x = new MonkMarbles();
        for (int pit = 0; pit < pits; pit++) {
            x.pit(1);
        }
        return x;
    }

    static String line(MonkMarbles x) {
        return lineOf(x, x.line());
    }

    static String lineOf(MonkMarbles x, int length) {
        StringBuilder out = new StringBuilder();
        for (int at = 0; at < length; at++) {
            out.append(x.character(at));
        }
        return out.toString();
    }

    static void type(MonkMarbles x, String text) {
        for (char c : text.toCharArray()) {
            x.append(c);
        }
    }

    static int run(MonkMarbles x, String text) {
        type(x, text);
        return x.run();
    }
}
