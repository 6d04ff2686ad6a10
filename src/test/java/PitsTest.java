/** Tests the edges of the promises 1 to 6: pits and digits. */
public final class PitsTest extends Checks {
    private static void newObject() {
        test("1: there are no pits", () -> {
            MonkMarbles x = new MonkMarbles();
            is("pits", x.account(0), 0);
            fails("pit 0", INDEX, () -> x.pitOf(0, 0));
        });
        test("1: the digits are 7 for 1 and for 2, and 0 for others", () -> {
            MonkMarbles x = new MonkMarbles();
            is("1", x.digitOf(1), 7);
            is("2", x.digitOf(2), 7);
            for (int take = 3; take <= 6; take++) {
                is("digit of " + take, x.digitOf(take), 0);
            }
        });
        test("1: the values are those of these digits at once", () -> {
            is("value(5)", new MonkMarbles().value(5, false), 4);
            is("value(5) again", new MonkMarbles().value(5, true), 4);
        });
        test("1: the monk 0 has the turn", () -> is("turn", new MonkMarbles().turn(), 0));
        test("1: nothing has happened yet", () -> {
            MonkMarbles x = new MonkMarbles();
            for (int part = 0; part < 8; part++) {
                is("number of a monk", x.monkOf(part / 4, part % 4), 0);
            }
            for (int what : new int[] {1, 2, 3, 4, 5, 6, 8, 9}) {
                is("account " + what, x.account(what), 0);
            }
            is("besides", besidesOf(x) + reasonOf(x), ", input 0, error -1, line , no reason");
            fails("restore", STATE, x::restore);
        });
        test("1: one object is not changed by another", () -> {
            MonkMarbles x = with(3);
            MonkMarbles y = with(5);
            y.digit(1, 0);
            y.scoop(0, 2, 3);
            is("line", line(x), "3:3 =3");
            is("digit", x.digitOf(1), 7);
            is("turn", x.turn(), 0);
        });
    }

    private static void pit() {
        test("2: the marbles are not from 1 to 30: too few", () -> {
            for (int marbles : new int[] {0, -1, -30, LEAST}) {
                stays("pit(" + marbles + ")", ARGUMENT, () -> with(4), x -> x.pit(marbles));
            }
        });
        test("2: the marbles are not from 1 to 30: too many", () -> {
            for (int marbles : new int[] {31, 40, 41, MOST}) {
                stays("pit(" + marbles + ")", ARGUMENT, () -> with(4), x -> x.pit(marbles));
            }
        });
        test("2: 1 and 30 are the ends of the range", () -> {
            is("pit(1)", new MonkMarbles().pit(1), 0);
            is("pit(30)", new MonkMarbles().pit(30), 0);
        });
        test("2: its number is behind all others", () -> {
            MonkMarbles x = with(5, 3);
            is("pit(1)", x.pit(1), 2);
            is("its marbles", x.pitOf(2, 0), 1);
            x.scoop(0, 1, 2);
            is("pit(4) behind a split", x.pit(4), 4);
        });
        test("2: reason 1 not with 40 marbles", () -> {
            is("10 more than 30", with(30).pit(10), 1);
            is("1 more than 39", with(30, 9).pit(1), 2);
            is("30 more than 10", with(10).pit(30), 1);
        });
        test("2: reason 1 from 41 marbles on", () -> {
            staysRefused("11 more than 30", 1, 41, () -> with(30), x -> x.pit(11));
            staysRefused("1 more than 40", 1, 41, () -> with(30, 10), x -> x.pit(1));
            staysRefused("30 more than 40", 1, 70, () -> with(10, 30), x -> x.pit(30));
        });
        test("2: marbles that were taken or left lying count no more", () -> {
            MonkMarbles x = with(30, 10);
            x.scoop(0, 1, 29);
            is("one more than 39", x.pit(1), 2);
            MonkMarbles y = withOnly(1, 0);
            y.pit(30);
            y.pit(10);
            y.next();
            is("in the next game", y.pit(30), 0);
        });
        test("2: the range stands before reason 1", () -> {
            stays("pit(0)", ARGUMENT, () -> with(30, 10), x -> x.pit(0));
            stays("pit(31)", ARGUMENT, () -> with(30, 10), x -> x.pit(31));
        });
        test("2: forty pits of one marble are full", () -> {
            MonkMarbles x = new MonkMarbles();
            for (int pit = 0; pit < 40; pit++) {
                is("pit", x.pit(1), pit);
            }
            refused(x, "one more", 1, 41, () -> x.pit(1));
            is("pits", x.account(0), 40);
        });
        test("2: the turn and the game stay", () -> {
            MonkMarbles x = with(5);
            x.scoop(0, 1, 4);
            x.pit(3);
            is("turn", x.turn(), 1);
            is("scoops of this game", x.account(6), 1);
        });
    }

    private static void digit() {
        test("3: there is no such number to take", () -> {
            for (int take : new int[] {0, -1, 7, 8, LEAST, MOST}) {
                stays("digit(" + take + ", 3)", ARGUMENT, () -> with(4), x -> x.digit(take, 3));
            }
        });
        test("3: there is no such digit", () -> {
            for (int digit : new int[] {-1, 8, 9, 15, LEAST, MOST}) {
                stays("digit(1, " + digit + ")", ARGUMENT, () -> with(4), x -> x.digit(1, digit));
                stays("digit(6, " + digit + ")", ARGUMENT, () -> with(4), x -> x.digit(6, digit));
            }
        });
        test("3: 1 and 6 are the ends of the numbers, 0 and 7 of the digits", () -> {
            MonkMarbles x = new MonkMarbles();
            is("digit(1, 0)", x.digit(1, 0), 7);
            is("digit(6, 7)", x.digit(6, 7), 0);
            is("digit(1, 7)", x.digit(1, 7), 0);
            is("digit(6, 0)", x.digit(6, 0), 7);
        });
        test("3: each digit of each number is set by itself", () -> {
            for (int take = 1; take <= 6; take++) {
                MonkMarbles x = withDigits(1, 2, 3, 4, 5, 6);
                is("digit before", x.digit(take, 7), take);
                for (int other = 1; other <= 6; other++) {
                    is("digit of " + other, x.digitOf(other), other == take ? 7 : other);
                }
            }
        });
        test("3: reason 4 if it is so already", () -> {
            staysRefused("digit(1, 7)", 4, 7, MonkMarbles::new, x -> x.digit(1, 7));
            staysRefused("digit(2, 7)", 4, 7, MonkMarbles::new, x -> x.digit(2, 7));
            staysRefused("digit(3, 0)", 4, 0, MonkMarbles::new, x -> x.digit(3, 0));
            staysRefused("digit(6, 0)", 4, 0, MonkMarbles::new, x -> x.digit(6, 0));
            staysRefused("digit(4, 5)", 4, 5, () -> withOnly(4, 5), x -> x.digit(4, 5));
        });
        test("3: a digit that was another one before may be set back", () -> {
            MonkMarbles x = new MonkMarbles();
            x.digit(1, 6);
            is("digit(1, 7)", x.digit(1, 7), 6);
            is("value", x.value(1, true), 1);
        });
        test("3: the values are others at once, by both ways", () -> {
            MonkMarbles x = with(3);
            x.digit(3, 1);
            is("value", x.value(3, false), 3);
            x.digit(1, 0);
            is("value then", x.value(3, false), x.value(3, true));
            is("value of 1", x.value(1, false), 0);
            is("value of 1 again", x.value(1, true), 0);
        });
    }

    private static void digitOf() {
        test("4: there is no such number to take", () -> {
            for (int take : new int[] {0, -1, 7, LEAST, MOST}) {
                stays("digitOf(" + take + ")", ARGUMENT, MonkMarbles::new, x -> x.digitOf(take));
            }
        });
        test("4: 1 and 6 are the ends of the numbers", () -> {
            MonkMarbles x = withDigits(5, 0, 0, 0, 0, 3);
            is("digitOf(1)", x.digitOf(1), 5);
            is("digitOf(6)", x.digitOf(6), 3);
        });
    }

    private static void pitOf() {
        test("5: there is no such pit", () -> {
            for (int pit : new int[] {2, 3, 40, -1, LEAST, MOST}) {
                for (int what = 0; what < 4; what++) {
                    int part = what;
                    stays("pitOf(" + pit + ", " + part + ")", INDEX, () -> with(5, 3), x -> x.pitOf(pit, part));
                }
            }
            stays("without pits", INDEX, MonkMarbles::new, x -> x.pitOf(0, 0));
        });
        test("5: what is not from 0 to 3", () -> {
            for (int what : new int[] {-1, 4, LEAST, MOST}) {
                stays("pitOf(1, " + what + ")", ARGUMENT, () -> with(5, 3), x -> x.pitOf(1, what));
            }
        });
        test("5: a pit that is not there stands before what is not", () -> {
            stays("pitOf(2, 4)", INDEX, () -> with(5, 3), x -> x.pitOf(2, 4));
            stays("pitOf(-1, -1)", INDEX, () -> with(5, 3), x -> x.pitOf(-1, -1));
        });
        test("5: the first and the last pit", () -> {
            MonkMarbles x = with(5, 3, 30);
            int[][] due = {{5, 4, 7, 3 ^ 7}, {30, 7, 57, 4 ^ 3}};
            for (int what = 0; what < 4; what++) {
                is("first, " + what, x.pitOf(0, what), due[0][what]);
                is("last, " + what, x.pitOf(2, what), due[1][what]);
            }
        });
        test("5: the exclusive or of all others is 0 for a pit alone", () -> is("others", with(30).pitOf(0, 3), 0));
        test("5: the exclusive or of all others leaves out the pit itself, but none that is alike", () -> {
            MonkMarbles x = with(3, 3, 3);
            is("others", x.pitOf(1, 3), 0);
            is("others of two", with(3, 3).pitOf(0, 3), 3);
        });
        test("5: no scoops may be made of a pit that is too small", () -> {
            MonkMarbles x = withOnly(3, 7);
            x.pit(2);
            x.pit(3);
            is("of 2", x.pitOf(0, 2), 0);
            is("of 3", x.pitOf(1, 2), 1);
        });
        test("5: the last of forty pits", () -> {
            MonkMarbles x = ones(40);
            is("marbles", x.pitOf(39, 0), 1);
            is("others", x.pitOf(39, 3), 1);
            fails("one behind it", INDEX, () -> x.pitOf(40, 0));
        });
    }

    private static void ranked() {
        test("6: there is no such place", () -> {
            for (int place : new int[] {-1, 2, 3, 40, LEAST, MOST}) {
                stays("ranked(" + place + ")", MISSING, () -> with(5, 3), x -> x.ranked(place));
            }
            stays("without pits", MISSING, MonkMarbles::new, x -> x.ranked(0));
        });
        test("6: the first and the last place", () -> {
            MonkMarbles x = with(1, 5, 2);
            is("first", x.ranked(0), 1);
            is("last", x.ranked(2), 0);
            is("only", with(30).ranked(0), 0);
        });
        test("6: the greatest value first, though it has fewer marbles", () -> {
            MonkMarbles x = with(20, 5, 3);
            // values 1, 4, 3
            is("0", x.ranked(0), 1);
            is("1", x.ranked(1), 2);
            is("2", x.ranked(2), 0);
        });
        test("6: of several with the same value the one with fewer marbles", () -> {
            MonkMarbles x = with(8, 4, 1);
            is("0", x.ranked(0), 2);
            is("1", x.ranked(1), 1);
            is("2", x.ranked(2), 0);
        });
        test("6: of several with the same marbles the lowest", () -> {
            MonkMarbles x = with(3, 3, 3);
            for (int place = 0; place < 3; place++) {
                is("ranked(" + place + ")", x.ranked(place), place);
            }
        });
        test("6: one marble fewer is enough, wherever it stands", () -> {
            MonkMarbles x = withoutDigits();
            x.pit(3);
            x.pit(2);
            x.pit(4);
            is("0", x.ranked(0), 1);
            is("1", x.ranked(1), 0);
            is("2", x.ranked(2), 2);
        });
        test("6: one more in value is enough, wherever it stands", () -> {
            MonkMarbles x = with(2, 3, 1);
            is("0", x.ranked(0), 1);
            is("1", x.ranked(1), 0);
            is("2", x.ranked(2), 2);
        });
        test("6: the first and the last of forty", () -> {
            MonkMarbles x = ones(40);
            is("first", x.ranked(0), 0);
            is("last", x.ranked(39), 39);
            fails("one behind it", MISSING, () -> x.ranked(40));
        });
        test("6: the rank is that of the digits as they are", () -> {
            MonkMarbles x = with(1, 2);
            is("at first", x.ranked(0), 1);
            x.digit(2, 0);
            // then 1 has the value 1, and 2 the value 0
            is("with another digit", x.ranked(0), 0);
        });
    }

    public static void main(String[] args) {
        newObject();
        pit();
        digit();
        digitOf();
        pitOf();
        ranked();
        end();
    }
}
