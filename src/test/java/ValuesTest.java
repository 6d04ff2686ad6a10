/** Tests the edges of the promises 16 to 21: values. */
public final class ValuesTest extends Checks {
    private static final int[] OUT_OF_RANGE = {-1, -2, 31, 32, 40, LEAST, MOST};

    /** The values of the digits that a new garden has, from the books: the game is Kayles. */
    private static final int[] KAYLES = {
        0, 1, 2, 3, 1, 4, 3, 2, 1, 4, 2, 6, 4, 1, 2, 7, 1, 4, 3, 2, 1, 4, 6, 7, 4, 1, 2, 8, 5, 4, 7,
    };

    private static void value() {
        test("16: the marbles are out of range", () -> {
            for (int marbles : OUT_OF_RANGE) {
                stays("value(" + marbles + ", false)", ARGUMENT, MonkMarbles::new, x -> x.value(marbles, false));
                stays("value(" + marbles + ", true)", ARGUMENT, MonkMarbles::new, x -> x.value(marbles, true));
            }
        });
        test("16: 0 and 30 are the ends of the range", () -> {
            MonkMarbles x = new MonkMarbles();
            is("value(0)", x.value(0, false), 0);
            is("value(0) again", x.value(0, true), 0);
            is("value(30)", x.value(30, false), 7);
            is("value(30) again", x.value(30, true), 7);
        });
        test("16: each value by both ways", () -> {
            MonkMarbles x = new MonkMarbles();
            for (int marbles = 0; marbles <= 30; marbles++) {
                is("value(" + marbles + ")", x.value(marbles, false), KAYLES[marbles]);
                is("value(" + marbles + ") again", x.value(marbles, true), KAYLES[marbles]);
            }
        });
        test("16: great values by both ways", () -> {
            MonkMarbles x = withDigits(7, 3, 4, 7, 6, 4);
            int[] due = {
                0, 1, 2, 3, 1, 4, 5, 1, 7, 6, 8, 9, 10, 1, 12, 11, 14, 12, 16, 1, 5, 4, 18, 3, 2, 20, 16, 22, 14, 25, 12,
            };
            for (int marbles = 0; marbles <= 30; marbles++) {
                is("value(" + marbles + ")", x.value(marbles, false), due[marbles]);
                is("value(" + marbles + ") again", x.value(marbles, true), due[marbles]);
            }
        });
        test("16: the value is 0 if the list has no 0", () -> {
            MonkMarbles x = withOnly(2, 3);
            // of 3 stays 1, which has the value 0; of 4 stays 2, which has the value 1
            is("value(3)", x.value(3, false), 1);
            is("value(4)", x.value(4, false), 0);
            is("value(4) again", x.value(4, true), 0);
        });
        test("16: all values are 0 if nothing may be taken", () -> {
            MonkMarbles x = withoutDigits();
            for (int marbles = 0; marbles <= 30; marbles++) {
                is("value(" + marbles + ")", x.value(marbles, false), 0);
                is("value(" + marbles + ") again", x.value(marbles, true), 0);
            }
        });
        test("16: the values do not depend on the pits", () -> {
            MonkMarbles x = with(30, 10);
            x.scoop(0, 1, 1);
            is("value(30)", x.value(30, false), 7);
            is("value(11)", x.value(11, true), 6);
        });
        test("16: the values come back with the digits", () -> {
            MonkMarbles x = new MonkMarbles();
            x.save();
            x.digit(1, 0);
            x.undo();
            is("behind undo", x.value(1, false), 1);
            x.digit(1, 0);
            x.restore();
            is("behind restore", x.value(1, true), 1);
            run(x, "c1=0");
            is("behind a text", x.value(1, false), 0);
            fails("a text", REFUSED, () -> run(x, "c1=7;c2=7"));
            is("behind a text that is refused", x.value(1, false), 0);
            x.undo();
            is("behind undo of a text", x.value(1, true), 1);
        });
    }

    private static void lists() {
        test("17: the marbles are out of range", () -> {
            for (int marbles : OUT_OF_RANGE) {
                stays("lists(" + marbles + ", 0)", ARGUMENT, MonkMarbles::new, x -> x.lists(marbles, 0));
            }
        });
        test("17: 0 and 30 are the ends of the range", () -> {
            MonkMarbles x = new MonkMarbles();
            is("lists(0, 0)", x.lists(0, 0), false);
            is("lists(30, 0)", x.lists(30, 0), true);
            is("lists(30, 6)", x.lists(30, 6), true);
            is("lists(30, 7)", x.lists(30, 7), false);
        });
        test("17: no list has a value below 0", () -> {
            MonkMarbles x = new MonkMarbles();
            for (int value : new int[] {-1, -31, -32, -64, LEAST, LEAST + 1}) {
                is("lists(30, " + value + ")", x.lists(30, value), false);
            }
        });
        test("17: no list has a value that is too great, not even by a turn of 32 or 64", () -> {
            MonkMarbles x = new MonkMarbles();
            for (int value : new int[] {16, 31, 32, 33, 63, 64, 65, 256, 1 << 16, MOST - 31, MOST}) {
                is("lists(30, " + value + ")", x.lists(30, value), false);
            }
        });
        test("17: a list with great values", () -> {
            MonkMarbles x = withDigits(6, 4, 4, 0, 0, 0);
            is("lists(30, 16)", x.lists(30, 16), true);
            is("lists(30, 17)", x.lists(30, 17), true);
            is("lists(26, 17)", x.lists(26, 17), false);
        });
        test("17: the list of 1 has what is left of it and no more", () -> {
            MonkMarbles x = new MonkMarbles();
            is("lists(1, 0)", x.lists(1, 0), true);
            is("lists(1, 1)", x.lists(1, 1), false);
            is("without digits", withoutDigits().lists(1, 0), false);
        });
        test("17: a list can have values behind one that it does not have", () -> {
            MonkMarbles x = new MonkMarbles();
            // of 4: 2^1, 3, 1^1 and 2
            boolean[] due = {true, false, true, true, false};
            for (int value = 0; value < due.length; value++) {
                is("lists(4, " + value + ")", x.lists(4, value), due[value]);
            }
        });
    }

    private static void listed() {
        test("18: the marbles are out of range", () -> {
            for (int marbles : OUT_OF_RANGE) {
                stays("listed(" + marbles + ")", ARGUMENT, MonkMarbles::new, x -> x.listed(marbles));
            }
        });
        test("18: 0 and 30 are the ends of the range", () -> {
            MonkMarbles x = new MonkMarbles();
            is("listed(0)", x.listed(0), 0);
            is("listed(30)", x.listed(30), 9);
        });
        test("18: a value that can be left in several ways counts once", () -> {
            MonkMarbles x = new MonkMarbles();
            is("listed(4)", x.listed(4), 3);
            MonkMarbles y = withOnly(1, 4);
            // 27 splits, of which those of the same two pits have the same value
            is("listed(30)", y.listed(30), countOf(y, 30));
            is("listed(3)", y.listed(3), 1);
        });
        test("18: none are listed if nothing may be taken", () -> {
            is("listed(30)", withoutDigits().listed(30), 0);
            is("listed(2) with 3 to take", withOnly(3, 7).listed(2), 0);
            is("listed(3) with 3 to take", withOnly(3, 7).listed(3), 1);
        });
        test("18: as many as lists tells of", () -> {
            MonkMarbles x = withDigits(6, 4, 4, 0, 0, 0);
            for (int marbles = 24; marbles <= 30; marbles++) {
                is("listed(" + marbles + ")", x.listed(marbles), countOf(x, marbles));
            }
        });
    }

    private static int countOf(MonkMarbles x, int marbles) {
        int count = 0;
        for (int value = 0; value < 32; value++) {
            count += x.lists(marbles, value) ? 1 : 0;
        }
        return count;
    }

    private static void sum() {
        test("19: without pits", () -> is("sum", new MonkMarbles().sum(), 0));
        test("19: of one pit, the least and the greatest", () -> {
            is("of 1", with(1).sum(), 1);
            is("of 30", with(30).sum(), 7);
        });
        test("19: it is no sum with a carry", () -> {
            is("of 3 and 1", with(3, 1).sum(), 2);
            is("of 3, 3 and 3", with(3, 3, 3).sum(), 3);
        });
        test("19: of forty pits", () -> {
            MonkMarbles x = ones(39);
            is("of 39", x.sum(), 1);
            x.pit(1);
            is("of 40", x.sum(), 0);
        });
    }

    private static void period() {
        test("20: the beginning is out of range", () -> {
            for (int from : new int[] {-1, 30, 31, LEAST, MOST}) {
                stays("period(" + from + ")", ARGUMENT, ValuesTest::withoutDigits, x -> x.period(from));
            }
        });
        test("20: 0 and 29 are the ends of the range", () -> {
            is("period(0)", withoutDigits().period(0), 1);
            is("period(29)", withoutDigits().period(29), 1);
        });
        test("20: the greatest period is 30 less the beginning", () -> {
            MonkMarbles x = withOnly(1, 4);
            // the value of 30 is 0, as that of 0, and no less period holds
            is("period(0)", x.period(0), 30);
            MonkMarbles y = new MonkMarbles();
            is("period(15)", y.period(15), 15);
            is("period(23)", y.period(23), 7);
        });
        test("20: no number from 1 to 30 less the beginning is a period", () -> {
            stays("period(0)", MISSING, MonkMarbles::new, x -> x.period(0));
            stays("period(16)", MISSING, MonkMarbles::new, x -> x.period(16));
            stays("period(29)", MISSING, MonkMarbles::new, x -> x.period(29));
        });
        test("20: the least of several periods", () -> {
            MonkMarbles x = withDigits(3, 3, 0, 0, 0, 0);
            is("the rest by 3", x.period(0), 3);
            is("from 27 on", x.period(27), 3);
        });
        test("20: numbers before the beginning do not count", () -> {
            MonkMarbles x = withOnly(6, 1);
            // only 6 has the value 1, all others 0
            is("from 7 on", x.period(7), 1);
        });
        test("20: numbers from the beginning on count, the beginning too, as far as both are at most 30", () -> {
            MonkMarbles x = withOnly(6, 1);
            fails("from 6 on", MISSING, () -> x.period(6));
            // by 25, since 6 and 25 more are above 30
            is("from 5 on", x.period(5), 25);
            is("from 0 on", x.period(0), 25);
        });
        test("20: the number 30 counts", () -> {
            MonkMarbles x = withDigits(1, 6, 0, 0, 0, 0);
            // the values from 24 on are 2, 1, 4, 2, 1, 4, 5
            fails("from 24 on", MISSING, () -> x.period(24));
            MonkMarbles y = withOnly(5, 2);
            // from 20 on once 1, five of 0, five of 1; the last of them is that of 30
            is("from 20 on", y.period(20), 10);
            fails("from 25 on", MISSING, () -> y.period(25));
            is("from 26 on", y.period(26), 1);
        });
    }

    private static void least() {
        test("21: no number of marbles from 0 to 30 has the value", () -> {
            for (int value : new int[] {-1, 9, 31, 32, LEAST, MOST}) {
                stays("least(" + value + ")", MISSING, MonkMarbles::new, x -> x.least(value));
            }
            stays("a value between", MISSING, () -> withDigits(7, 7, 7, 7, 7, 7), x -> x.least(18));
            stays("without digits", MISSING, ValuesTest::withoutDigits, x -> x.least(1));
        });
        test("21: the value 0 is that of 0 marbles", () -> {
            is("least(0)", new MonkMarbles().least(0), 0);
            is("without digits", withoutDigits().least(0), 0);
        });
        test("21: a value that only 30 marbles have", () -> {
            MonkMarbles x = withDigits(1, 6, 0, 0, 0, 0);
            is("least(5)", x.least(5), 30);
        });
        test("21: the least of several numbers", () -> {
            MonkMarbles x = new MonkMarbles();
            is("least(1)", x.least(1), 1);
            is("least(4)", x.least(4), 5);
            is("least(8)", x.least(8), 27);
            is("least(5)", x.least(5), 28);
        });
    }

    public static void main(String[] args) {
        value();
        lists();
        listed();
        sum();
        period();
        least();
        end();
    }
}
