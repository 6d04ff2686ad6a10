/** Tests each promise of the document by itself: ordinary inputs, the edges it names, and wrong inputs. */
public final class PromisesTest extends Checks {
    private static void errorAt(String text, int position) {
        MonkMarbles x = with(5);
        fails("run of " + text, ARGUMENT, () -> run(x, text));
        is("error position of " + text, x.errorPosition(), position);
        is("input behind " + text, x.account(8), 0);
        is("line behind " + text, line(x), "5:4 =4");
        is("changes behind " + text, x.account(9), 1);
    }

    private static void newObject() {
        MonkMarbles x = new MonkMarbles();
        is("pits", x.account(0), 0);
        int[] digits = {7, 7, 0, 0, 0, 0};
        for (int take = 1; take <= 6; take++) {
            is("digit of " + take, x.digitOf(take), digits[take - 1]);
        }
        is("turn", x.turn(), 0);
        for (int what = 0; what <= 9; what++) {
            is("account " + what, x.account(what), what == 7 ? 8 : 0);
        }
    }

    private static void pit() {
        MonkMarbles x = new MonkMarbles();
        fails("pit(0)", ARGUMENT, () -> x.pit(0));
        fails("pit(-1)", ARGUMENT, () -> x.pit(-1));
        fails("pit(31)", ARGUMENT, () -> x.pit(31));
        fails("pit(least)", ARGUMENT, () -> x.pit(Integer.MIN_VALUE));
        fails("refusal", MISSING, () -> x.refusal(false));
        is("pit(30)", x.pit(30), 0);
        refused(x, "pit(11)", 1, 41, () -> x.pit(11));
        fails("pit(31) in a full garden", ARGUMENT, () -> x.pit(31));
        is("pit(9)", x.pit(9), 1);
        is("pit(1)", x.pit(1), 2);
        refused(x, "pit(30)", 1, 70, () -> x.pit(30));
        is("pits", x.account(0), 3);
        MonkMarbles y = new MonkMarbles();
        for (int pit = 0; pit < 40; pit++) {
            is("pit of one", y.pit(1), pit);
        }
        refused(y, "a pit of one more", 1, 41, () -> y.pit(1));
        is("length of the line of forty", y.line(), 162);
    }

    private static void digit() {
        MonkMarbles x = new MonkMarbles();
        fails("digit(0, 1)", ARGUMENT, () -> x.digit(0, 1));
        fails("digit(7, 1)", ARGUMENT, () -> x.digit(7, 1));
        fails("digit(1, -1)", ARGUMENT, () -> x.digit(1, -1));
        fails("digit(1, 8)", ARGUMENT, () -> x.digit(1, 8));
        fails("refusal", MISSING, () -> x.refusal(false));
        refused(x, "digit(1, 7)", 4, 7, () -> x.digit(1, 7));
        refused(x, "digit(6, 0)", 4, 0, () -> x.digit(6, 0));
        is("changes", x.account(9), 0);
        is("digit(1, 3)", x.digit(1, 3), 7);
        is("digit(1, 0)", x.digit(1, 0), 3);
        is("digit(6, 5)", x.digit(6, 5), 0);
        is("digit of 6", x.digitOf(6), 5);
        is("value of 6", x.value(6, false), x.value(6, true));
        MonkMarbles y = with(3);
        is("scoops", y.scoops(), 3);
        y.digit(3, 1);
        is("scoops with a digit more", y.scoops(), 4);
    }

    private static void digitOf() {
        MonkMarbles x = withDigits(0, 1, 2, 4, 6, 7);
        int[] due = {0, 1, 2, 4, 6, 7};
        for (int take = 1; take <= 6; take++) {
            is("digit of " + take, x.digitOf(take), due[take - 1]);
        }
        fails("digitOf(0)", ARGUMENT, () -> x.digitOf(0));
        fails("digitOf(7)", ARGUMENT, () -> x.digitOf(7));
    }

    private static void pitOf() {
        MonkMarbles x = with(5, 3, 1);
        int[][] due = {{5, 4, 7, 2}, {3, 3, 3, 5}, {1, 1, 1, 7}};
        for (int pit = 0; pit < 3; pit++) {
            for (int what = 0; what < 4; what++) {
                int at = pit;
                int part = what;
                is("pitOf(" + at + ", " + part + ")", x.pitOf(at, part), due[at][part]);
            }
        }
        fails("pitOf(3, 9)", INDEX, () -> x.pitOf(3, 9));
        fails("pitOf(-1, 0)", INDEX, () -> x.pitOf(-1, 0));
        fails("pitOf(0, 4)", ARGUMENT, () -> x.pitOf(0, 4));
        fails("pitOf(0, -1)", ARGUMENT, () -> x.pitOf(0, -1));
        MonkMarbles alone = with(4);
        is("others of none", alone.pitOf(0, 3), 0);
    }

    private static void ranked() {
        // values in Kayles: 1:1 2:2 3:3 4:1 5:4
        MonkMarbles x = with(4, 1, 5, 1, 3);
        int[] due = {2, 4, 1, 3, 0};
        for (int place = 0; place < 5; place++) {
            is("ranked " + place, x.ranked(place), due[place]);
        }
        fails("ranked(5)", MISSING, () -> x.ranked(5));
        fails("ranked(-1)", MISSING, () -> x.ranked(-1));
        fails("ranked without pits", MISSING, () -> new MonkMarbles().ranked(0));
    }

    private static void scoop() {
        MonkMarbles x = with(5, 3);
        fails("no pit", INDEX, () -> x.scoop(2, 9, -1));
        fails("pit -1", INDEX, () -> x.scoop(-1, 1, 0));
        fails("take 0", ARGUMENT, () -> x.scoop(0, 0, 5));
        fails("take 7", ARGUMENT, () -> x.scoop(0, 7, 0));
        fails("left -1", ARGUMENT, () -> x.scoop(0, 1, -1));
        fails("left least", ARGUMENT, () -> x.scoop(0, 1, Integer.MIN_VALUE));
        fails("left 0 with others", ARGUMENT, () -> x.scoop(0, 2, 0));
        fails("refusal", MISSING, () -> x.refusal(false));
        refused(x, "take more than there are", 2, 3, () -> x.scoop(1, 4, 0));
        refused(x, "leave more than there are", 2, 5, () -> x.scoop(0, 1, 5));
        refused(x, "leave the most", 2, 5, () -> x.scoop(0, 6, Integer.MAX_VALUE));
        refused(x, "take by a digit 0", 3, 0, () -> x.scoop(1, 3, 0));
        is("split", x.scoop(0, 1, 1), 3);
        is("line", line(x), "1:1 3:3 3:3 =1");
        is("turn", x.turn(), 1);
        is("take all", x.scoop(0, 1, 0), 2);
        is("line", line(x), "3:3 3:3 =0");
        is("turn", x.turn(), 0);
        is("let stay", x.scoop(1, 2, 1), 2);
        is("line", line(x), "3:3 1:1 =2");
        MonkMarbles only = withDigits(1, 2, 4, 0, 0, 0);
        only.pit(6);
        refused(only, "stay by a digit 1", 3, 1, () -> only.scoop(0, 1, 5));
        refused(only, "split by a digit 2", 3, 2, () -> only.scoop(0, 2, 1));
        refused(only, "stay by a digit 4", 3, 4, () -> only.scoop(0, 3, 3));
        is("split by a digit 4", only.scoop(0, 3, 2), 2);
        is("line", line(only), "2:0 1:1 =1");
        refused(only, "all by a digit 2", 3, 2, () -> only.scoop(0, 2, 0));
        only.digit(1, 2);
        refused(only, "all by a digit 2 of 1", 3, 2, () -> only.scoop(1, 1, 0));
    }

    private static void play() {
        MonkMarbles x = with(5, 3);
        is("told", x.told(0) * 100 + x.told(1) * 10 + x.told(2), 21);
        is("play", x.play(), 3);
        is("line", line(x), "1:1 3:3 2:2 =0");
        is("turn", x.turn(), 1);
        is("scoops of monk 0", x.monkOf(0, 0), 1);
        fails("play without a scoop told", MISSING, x::play);
        is("turn", x.turn(), 1);
        is("changes", x.account(9), 3);
        x.undo();
        is("line", line(x), "5:4 3:3 =7");
        fails("play without pits", MISSING, () -> new MonkMarbles().play());
    }

    private static void scoops() {
        is("without pits", new MonkMarbles().scoops(), 0);
        is("of 1", with(1).scoops(), 1);
        is("of 2", with(2).scoops(), 2);
        is("of 3", with(3).scoops(), 3);
        is("of 5 and 3", with(5, 3).scoops(), 10);
        MonkMarbles x = withDigits(7, 7, 7, 7, 7, 7);
        x.pit(30);
        // each of 1 to 6: one that lets the others stay, and 28 to 23 that split
        is("of 30", x.scoops(), 6 + 28 + 27 + 26 + 25 + 24 + 23);
        MonkMarbles none = withDigits(0, 0, 0, 0, 0, 0);
        none.pit(30);
        is("without digits", none.scoops(), 0);
    }

    private static void scoopAt() {
        MonkMarbles x = with(3, 1, 4);
        int[][] due = {
            {0, 1, 1}, {0, 1, 2}, {0, 2, 1}, {1, 1, 0},
            {2, 1, 1}, {2, 1, 2}, {2, 1, 3}, {2, 2, 1}, {2, 2, 2},
        };
        is("scoops", x.scoops(), due.length);
        for (int place = 0; place < due.length; place++) {
            for (int what = 0; what < 3; what++) {
                is("scoopAt(" + place + ", " + what + ")", x.scoopAt(place, what), due[place][what]);
            }
        }
        fails("place 9", MISSING, () -> x.scoopAt(9, 5));
        fails("place -1", MISSING, () -> x.scoopAt(-1, 0));
        fails("place most", MISSING, () -> x.scoopAt(Integer.MAX_VALUE, 0));
        fails("what 3", ARGUMENT, () -> x.scoopAt(0, 3));
        fails("what -1", ARGUMENT, () -> x.scoopAt(0, -1));
    }

    private static void told() {
        MonkMarbles x = with(1, 4, 2);
        // the values 1, 1, 2: of the first pit nothing with 1^2 can be left, of the next 1 and 2
        is("pit", x.told(0), 1);
        is("taken", x.told(1), 1);
        is("left", x.told(2), 1);
        MonkMarbles six = withDigits(0, 0, 0, 0, 0, 2);
        six.pit(7);
        is("6 of 7", six.told(0) * 100 + six.told(1) * 10 + six.told(2), 61);
        is("6 of 7 by its place", six.scoopAt(0, 1) * 10 + six.scoopAt(0, 2), 61);
        fails("what 3", ARGUMENT, () -> x.told(3));
        fails("what -1", ARGUMENT, () -> x.told(-1));
        MonkMarbles even = with(4, 4);
        fails("sum 0", MISSING, () -> even.told(9));
        MonkMarbles split = with(3);
        is("a split in the middle", split.told(1) * 10 + split.told(2), 11);
    }

    private static void wins() {
        is("without pits", new MonkMarbles().wins(false), false);
        is("without pits again", new MonkMarbles().wins(true), false);
        is("3 and 3", with(3, 3).wins(false), false);
        is("3 and 3 again", with(3, 3).wins(true), false);
        is("3 and 4", with(3, 4).wins(false), true);
        is("3 and 4 again", with(3, 4).wins(true), true);
        is("10 again", with(10).wins(true), true);
        MonkMarbles x = with(10, 1);
        fails("11 again", STATE, () -> x.wins(true));
        is("11", x.wins(false), true);
        MonkMarbles ones = with(1, 1, 1, 1, 1, 1, 1, 1, 1, 1);
        is("ten pits of one", ones.wins(true), false);
        MonkMarbles six = withDigits(0, 0, 0, 0, 0, 2);
        six.pit(7);
        is("6 of 7", six.wins(false), true);
        is("6 of 7 again", six.wins(true), true);
        six.digit(6, 1);
        is("6 of 7 with a digit 1", six.wins(true), false);
        int[][] digits = {{7, 7, 7, 7, 7, 7}, {4, 0, 1, 3, 0, 7}, {3, 3, 3, 0, 0, 0}, {0, 0, 0, 0, 0, 0}, {0, 5, 0, 6, 2, 1}};
        for (int[] row : digits) {
            MonkMarbles y = withDigits(row);
            for (int pit : new int[] {3, 5, 2}) {
                y.pit(pit);
                is("by both ways", y.wins(true), y.wins(false));
            }
        }
    }

    private static void next() {
        MonkMarbles x = new MonkMarbles();
        is("nothing scooped", x.next(), -1);
        is("games", x.account(5), 1);
        x.pit(2);
        refused(x, "not over", 5, 2, x::next);
        x.scoop(0, 1, 1);
        refused(x, "still not over", 5, 1, x::next);
        x.digit(1, 6);
        is("monk 0 won", x.next(), 0);
        is("turn stays", x.turn(), 1);
        is("pits", x.account(0), 0);
        is("games won by 0", x.monkOf(0, 2), 1);
        is("games won by 1", x.monkOf(1, 2), 0);
        is("scoops of this game", x.monkOf(0, 3), 0);
        is("scoops so far", x.monkOf(0, 0), 1);
        is("marbles that lay", x.account(4), 1);
        is("games", x.account(5), 2);
        x.pit(2);
        x.scoop(0, 2, 0);
        is("games won before the next begins", x.monkOf(1, 2), 0);
        is("monk 1 won", x.next(), 1);
        is("games won by 1", x.monkOf(1, 2), 1);
        x.undo();
        is("games won by 1 behind undo", x.monkOf(1, 2), 0);
        MonkMarbles stuck = withDigits(0, 0, 0, 0, 0, 0);
        stuck.pit(30);
        is("over with a pit, nobody won", stuck.next(), -1);
        is("marbles that lay", stuck.account(4), 30);
    }

    private static void turn() {
        MonkMarbles x = with(5);
        is("at first", x.turn(), 0);
        x.scoop(0, 1, 4);
        is("behind a scoop", x.turn(), 1);
        x.play();
        is("behind play", x.turn(), 0);
        fails("a scoop that may not be made", REFUSED, () -> x.scoop(0, 6, 0));
        is("behind a refusal", x.turn(), 0);
        x.undo();
        is("behind undo", x.turn(), 1);
    }

    private static void monkOf() {
        MonkMarbles x = with(5, 4);
        x.scoop(0, 2, 3);
        x.scoop(1, 1, 3);
        x.scoop(0, 1, 1);
        int[][] due = {{2, 3, 0, 2}, {1, 1, 0, 1}};
        for (int monk = 0; monk < 2; monk++) {
            for (int what = 0; what < 4; what++) {
                is("monkOf(" + monk + ", " + what + ")", x.monkOf(monk, what), due[monk][what]);
            }
        }
        fails("monk 2", INDEX, () -> x.monkOf(2, 9));
        fails("monk -1", INDEX, () -> x.monkOf(-1, 0));
        fails("what 4", ARGUMENT, () -> x.monkOf(1, 4));
        fails("what -1", ARGUMENT, () -> x.monkOf(0, -1));
    }

    private static void value() {
        // the values of Kayles, from the books
        int[] kayles = {0, 1, 2, 3, 1, 4, 3, 2, 1, 4, 2, 6, 4, 1, 2, 7, 1, 4, 3, 2, 1, 4, 6, 7, 4, 1, 2, 8, 5, 4, 7};
        MonkMarbles x = new MonkMarbles();
        for (int marbles = 0; marbles <= 30; marbles++) {
            is("value of " + marbles, x.value(marbles, false), kayles[marbles]);
            is("value of " + marbles + " again", x.value(marbles, true), kayles[marbles]);
        }
        // Dawson's Kayles: only 2 may be taken, in any way
        int[] dawson = {0, 0, 1, 1, 2, 0, 3, 1, 1, 0, 3, 3, 2, 2, 4, 0, 5, 2, 2, 3, 3, 0, 1, 1, 3, 0, 2, 1, 1, 0, 4};
        MonkMarbles y = withDigits(0, 7, 0, 0, 0, 0);
        for (int marbles = 0; marbles <= 30; marbles++) {
            is("Dawson's value of " + marbles, y.value(marbles, false), dawson[marbles]);
            is("Dawson's value of " + marbles + " again", y.value(marbles, true), dawson[marbles]);
        }
        // 1 to 6 may be taken and nothing is split: the rest by 7
        MonkMarbles z = withDigits(3, 3, 3, 3, 3, 3);
        for (int marbles = 0; marbles <= 30; marbles++) {
            is("the rest of " + marbles, z.value(marbles, false), marbles % 7);
            is("the rest of " + marbles + " again", z.value(marbles, true), marbles % 7);
        }
        fails("value(-1)", ARGUMENT, () -> x.value(-1, false));
        fails("value(31)", ARGUMENT, () -> x.value(31, true));
    }

    private static void lists() {
        MonkMarbles x = new MonkMarbles();
        // of 3: 2, 1^1, 1
        boolean[] due = {true, true, true, false, false};
        for (int value = 0; value < due.length; value++) {
            is("lists(3, " + value + ")", x.lists(3, value), due[value]);
        }
        is("of 0", x.lists(0, 0), false);
        for (int value : new int[] {-1, 31, 32, 33, 64, Integer.MAX_VALUE, Integer.MIN_VALUE}) {
            is("lists(3, " + value + ")", x.lists(3, value), false);
        }
        fails("lists(-1, 0)", ARGUMENT, () -> x.lists(-1, 0));
        fails("lists(31, 0)", ARGUMENT, () -> x.lists(31, 0));
    }

    private static void listed() {
        MonkMarbles x = new MonkMarbles();
        int[] due = {0, 1, 2, 3};
        for (int marbles = 0; marbles < due.length; marbles++) {
            is("listed(" + marbles + ")", x.listed(marbles), due[marbles]);
        }
        is("listed(30)", x.listed(30), 9);
        x.digit(2, 0);
        is("with one digit less", x.listed(3), 1);
        fails("listed(-1)", ARGUMENT, () -> x.listed(-1));
        fails("listed(31)", ARGUMENT, () -> x.listed(31));
    }

    private static void sum() {
        is("without pits", new MonkMarbles().sum(), 0);
        is("of 5", with(5).sum(), 4);
        is("of 5 and 3", with(5, 3).sum(), 7);
        is("of 5, 3 and 5", with(5, 3, 5).sum(), 3);
        MonkMarbles x = with(5, 3);
        x.digit(1, 0);
        is("with another digit", x.sum(), x.value(5, false) ^ x.value(3, false));
    }

    private static void period() {
        MonkMarbles x = withDigits(3, 3, 0, 0, 0, 0);
        is("the rest by 3", x.period(0), 3);
        is("the rest by 3 from 4", x.period(4), 3);
        is("the rest by 3 from 27", x.period(27), 3);
        fails("the rest by 3 from 28", MISSING, () -> x.period(28));
        MonkMarbles none = withDigits(0, 0, 0, 0, 0, 0);
        is("no digits", none.period(0), 1);
        is("no digits from 29", none.period(29), 1);
        MonkMarbles odd = withDigits(4, 0, 0, 0, 0, 0);
        is("of the longest", odd.period(0), 30);
        fails("Kayles", MISSING, () -> new MonkMarbles().period(0));
        is("Kayles from 15", with().period(15), 15);
        fails("Kayles from 16", MISSING, () -> with().period(16));
        fails("period(-1)", ARGUMENT, () -> x.period(-1));
        fails("period(30)", ARGUMENT, () -> x.period(30));
    }

    private static void least() {
        MonkMarbles x = new MonkMarbles();
        int[] due = {0, 1, 2, 3, 5, 28, 11, 15, 27};
        for (int value = 0; value < due.length; value++) {
            is("least(" + value + ")", x.least(value), due[value]);
        }
        fails("least(9)", MISSING, () -> x.least(9));
        fails("least(-1)", MISSING, () -> x.least(-1));
    }

    private static void line() {
        is("without pits", line(new MonkMarbles()), "=0");
        is("of one", line(with(30)), "30:7 =7");
        is("of two", line(with(3, 5)), "3:3 5:4 =7");
        is("length", with(3, 5).line(), 10);
        MonkMarbles x = withDigits(3, 3, 3, 3, 3, 3);
        x.digit(6, 7);
        x.pit(30);
        x.pit(10);
        String due = "30:" + x.value(30, false) + " 10:" + x.value(10, false) + " =" + x.sum();
        is("of long numbers", line(x), due);
    }

    private static void valuesLine() {
        MonkMarbles x = new MonkMarbles();
        is("of 0", lineOf(x, x.valuesLine(0)), "0");
        is("of 5", lineOf(x, x.valuesLine(5)), "0,1,2,3,1,4");
        is("length of 30", x.valuesLine(30), 61);
        fails("valuesLine(-1)", ARGUMENT, () -> x.valuesLine(-1));
        fails("valuesLine(31)", ARGUMENT, () -> x.valuesLine(31));
        fails("a line that is shorter again", INDEX, () -> x.character(x.valuesLine(2)));
        is("the line stays where none was written", x.character(4), '2');
    }

    private static void character() {
        MonkMarbles x = new MonkMarbles();
        fails("of the empty line", INDEX, () -> x.character(0));
        x.pit(3);
        fails("of the line that was not written", INDEX, () -> x.character(0));
        x.line();
        is("0", x.character(0), '3');
        is("1", x.character(1), ':');
        is("5", x.character(5), '3');
        fails("6", INDEX, () -> x.character(6));
        fails("-1", INDEX, () -> x.character(-1));
        x.undo();
        is("behind undo", x.character(4), '=');
        x.save();
        x.valuesLine(1);
        x.restore();
        is("behind restore", x.character(2), '1');
    }

    private static void append() {
        MonkMarbles x = new MonkMarbles();
        for (int count = 1; count <= 60; count++) {
            is("append", x.append((char) (count * 1000)), count);
        }
        fails("the 61st", STATE, () -> x.append('n'));
        is("the input", x.account(8), 60);
        fails("run", ARGUMENT, x::run);
        is("append to the emptied input", x.append('n'), 1);
        x.save();
        x.pit(1);
        x.undo();
        is("append behind undo", x.append(';'), 2);
        x.restore();
        is("append behind restore", x.append('n'), 3);
        is("run of all of it", x.run(), 2);
    }

    private static void run() {
        MonkMarbles x = new MonkMarbles();
        is("orders", run(x, "p5;p03;c3=7;s0-2/1;s0-1;s1-1/1;p10"), 7);
        is("line", line(x), "3:3 1:1 10:" + x.value(10, true) + " =" + (3 ^ 1 ^ x.value(10, true)));
        is("input", x.account(8), 0);
        is("position", x.errorPosition(), -1);
        is("changes", x.account(9), 1);
        is("undo", x.undo(), 0);
        is("pits behind undo", x.account(0), 0);
        is("digit behind undo", x.digitOf(3), 0);
        is("take all by a text", run(x, "p2;s0-2"), 2);
        is("pits", x.account(0), 0);
        is("a next game by a text", run(x, "n;p1;s0-1/0;n;n"), 5);
        is("games", x.account(5), 3);
        is("won by 0", x.monkOf(0, 2), 1);
        is("won by 1", x.monkOf(1, 2), 1);
        String before = line(x);
        int changes = x.account(9);
        fails("a later order with a wrong argument", ARGUMENT, () -> run(x, "p9;c3=1;c1=8"));
        fails("a pit too great", ARGUMENT, () -> run(x, "p9;p31"));
        fails("a pit without marbles", ARGUMENT, () -> run(x, "p9;p00"));
        fails("no such pit", ARGUMENT, () -> run(x, "p9;s1-1"));
        fails("take 0", ARGUMENT, () -> run(x, "p9;s0-0"));
        fails("take 7", ARGUMENT, () -> run(x, "p9;s0-7"));
        fails("left 0 with others", ARGUMENT, () -> run(x, "p9;s0-2/0"));
        fails("the first decides", ARGUMENT, () -> run(x, "p9;p0;c1=7"));
        refused(x, "the first decides again", 4, 7, () -> run(x, "p9;c1=7;p0"));
        refused(x, "too many marbles", 1, 48, () -> run(x, "p9;p9;p30"));
        refused(x, "too few marbles", 2, 3, () -> run(x, "p3;s0-5"));
        refused(x, "too few marbles left", 2, 3, () -> run(x, "p3;s0-1/99"));
        refused(x, "a digit", 3, 6, () -> run(x, "c1=6;p1;s0-1"));
        refused(x, "not over", 5, 3, () -> run(x, "p3;n"));
        is("the line", line(x), before);
        is("the digits", x.digitOf(3) * 10 + x.digitOf(1), 7);
        is("the changes", x.account(9), changes);
        is("the values", x.value(1, false), 1);
        fails("a text with an error refuses nothing", ARGUMENT, () -> run(x, "p30;p30;x"));
        is("the reason stays", x.refusal(false), 5);
        MonkMarbles other = with(3);
        is("a digit by a text", run(other, "c1=0"), 1);
        is("the sum then", other.sum(), other.value(3, true));
        is("the value then", other.value(1, false), 0);
        MonkMarbles many = new MonkMarbles();
        is("thirty orders", run(many, "n;n;n;n;n;n;n;n;n;n;n;n;n;n;n;n;n;n;n;n;n;n;n;n;n;n;n;n;n;n"), 30);
        is("thirty games", many.account(5), 30);
        type(many, "n;n;n;n;n;n;n;n;n;n;n;n;n;n;n;n;n;n;n;n;n;n;n;n;n;n;n;n;n;n;");
        fails("a semicolon at the end of sixty", ARGUMENT, many::run);
        is("its position", many.errorPosition(), 60);
    }

    private static void errorPosition() {
        is("at first", new MonkMarbles().errorPosition(), -1);
        errorAt("", 0);
        errorAt("x", 0);
        errorAt(";", 0);
        errorAt("p", 1);
        errorAt("p;", 1);
        errorAt("p123", 3);
        errorAt("p5;", 3);
        errorAt("p5;;", 3);
        errorAt("p5 ", 2);
        errorAt("P5", 0);
        errorAt("c", 1);
        errorAt("c1", 2);
        errorAt("c12", 2);
        errorAt("c1=", 3);
        errorAt("c1=10", 4);
        errorAt("c1-1", 2);
        errorAt("s", 1);
        errorAt("s0", 2);
        errorAt("s00", 3);
        errorAt("s000", 3);
        errorAt("s0-", 3);
        errorAt("s0-12", 4);
        errorAt("s0-1/", 5);
        errorAt("s0-1/x", 5);
        errorAt("s0-1/123", 7);
        errorAt("s0=1", 2);
        errorAt("n1", 1);
        errorAt("nn", 1);
        errorAt("p1;p1;q", 6);
        errorAt("p1" + (char) 0, 2);
        errorAt("p" + (char) 0x0661, 1);
        MonkMarbles x = new MonkMarbles();
        fails("an error", ARGUMENT, () -> run(x, "p"));
        is("behind an error", x.errorPosition(), 1);
        type(x, "p");
        is("before the next run", x.errorPosition(), 1);
        x.append('1');
        x.run();
        is("behind a text without one", x.errorPosition(), -1);
        fails("an error", ARGUMENT, () -> run(x, "pp"));
        x.undo();
        is("behind undo", x.errorPosition(), 1);
        fails("an order that fails", ARGUMENT, () -> run(x, "p0"));
        is("behind an order that fails", x.errorPosition(), -1);
    }

    private static void refusal() {
        MonkMarbles x = with(30);
        fails("at first", MISSING, () -> x.refusal(true));
        fails("an argument", ARGUMENT, () -> x.pit(0));
        fails("behind an argument", MISSING, () -> x.refusal(false));
        refused(x, "1", 1, 60, () -> x.pit(30));
        refused(x, "2", 2, 30, () -> x.scoop(0, 1, 30));
        refused(x, "3", 3, 0, () -> x.scoop(0, 5, 25));
        refused(x, "4", 4, 7, () -> x.digit(2, 7));
        refused(x, "5", 5, 57, x::next);
        x.save();
        x.undo();
        is("behind undo", x.refusal(false), 5);
        x.restore();
        is("behind restore", x.refusal(true), 57);
        fails("an argument", ARGUMENT, () -> x.digit(0, 0));
        is("behind an argument", x.refusal(false), 5);
    }

    private static void account() {
        MonkMarbles x = withDigits(7, 7, 1, 0, 0, 0);
        x.pit(5);
        x.pit(4);
        x.scoop(0, 2, 3);
        x.scoop(0, 3, 0);
        x.append('p');
        int[] due = {1, 4, 9, 5, 0, 0, 2, x.value(0, false), 1, 5};
        for (int marbles = 0; marbles <= 30; marbles++) {
            due[7] = Math.max(due[7], x.value(marbles, true));
        }
        for (int what = 0; what < due.length; what++) {
            is("account(" + what + ")", x.account(what), due[what]);
        }
        for (int take = 1; take <= 3; take++) {
            x.digit(take, 0);
        }
        x.next();
        int[] then = {0, 0, 9, 5, 4, 1, 0, 0, 1, 8};
        for (int what = 0; what < then.length; what++) {
            is("account(" + what + ") then", x.account(what), then[what]);
        }
        fails("account(10)", ARGUMENT, () -> x.account(10));
        fails("account(-1)", ARGUMENT, () -> x.account(-1));
    }

    private static void isWell() {
        MonkMarbles x = new MonkMarbles();
        is("at first", x.isWell(), true);
        int[] pits = {30, 9, 1};
        for (int pit : pits) {
            x.pit(pit);
            is("behind a pit", x.isWell(), true);
        }
        for (int turn = 0; turn < 60 && x.scoops() > 0; turn++) {
            int place = turn * 7 % x.scoops();
            x.scoop(x.scoopAt(place, 0), x.scoopAt(place, 1), x.scoopAt(place, 2));
            is("behind a scoop", x.isWell(), true);
        }
        x.next();
        is("behind a game", x.isWell(), true);
        x.digit(6, 7);
        x.pit(10);
        is("with another digit", x.isWell(), true);
        x.play();
        is("behind play", x.isWell(), true);
        x.undo();
        is("behind undo", x.isWell(), true);
        is("the line is let be", x.line(), line(x).length());
    }

    private static void meanMarbles() {
        MonkMarbles x = new MonkMarbles();
        fails("without pits", ARITHMETIC, x::meanMarbles);
        x.pit(5);
        is("of one", x.meanMarbles(), 5.0);
        x.pit(2);
        x.pit(3);
        is("of three", x.meanMarbles(), 10.0 / 3.0);
    }

    private static void share() {
        MonkMarbles x = with(30);
        fails("monk 2", INDEX, () -> x.share(2));
        fails("monk -1", INDEX, () -> x.share(-1));
        fails("no scoops", ARITHMETIC, () -> x.share(0));
        x.scoop(0, 1, 29);
        is("all by 0", x.share(0), 1.0f);
        is("none by 1", x.share(1), 0.0f);
        x.scoop(0, 1, 28);
        x.scoop(0, 1, 27);
        is("two of three", x.share(0), 2.0f / 3.0f);
        is("one of three", x.share(1), 1.0f / 3.0f);
    }

    private static void undo() {
        MonkMarbles x = new MonkMarbles();
        fails("nothing", STATE, x::undo);
        for (int pit = 1; pit <= 10; pit++) {
            x.pit(1);
            is("changes", x.account(9), Math.min(pit, 8));
        }
        for (int left = 7; left >= 0; left--) {
            is("undo", x.undo(), left);
            is("pits", x.account(0), left + 2);
        }
        fails("no more", STATE, x::undo);
        x.digit(1, 0);
        is("the value with the digit", x.value(1, false), 0);
        x.undo();
        is("the digit", x.digitOf(1), 7);
        is("the value", x.value(1, false), 1);
        x.scoop(0, 1, 0);
        x.scoop(0, 1, 0);
        x.next();
        x.undo();
        is("scoops of this game", x.account(6), 2);
        is("games", x.account(5), 0);
        is("won", x.monkOf(1, 2), 0);
        x.undo();
        is("turn", x.turn(), 1);
        is("taken", x.account(3), 1);
        is("pits", x.account(0), 1);
        refused(x, "a refusal is no change", 5, 1, x::next);
        x.save();
        x.line();
        x.append('n');
        is("nor is any of these", x.undo(), 0);
        is("line", line(x), "1:1 1:1 =0");
    }

    private static void save() {
        MonkMarbles x = with(5, 3);
        is("save", x.save(), 2);
        is("changes", x.account(9), 2);
        x.pit(1);
        is("save anew", x.save(), 3);
        x.undo();
        is("restore of the later", x.restore(), 3);
        is("save without pits", new MonkMarbles().save(), 0);
    }

    private static void restore() {
        MonkMarbles x = with(5, 3);
        fails("no snapshot", STATE, x::restore);
        x.digit(4, 5);
        x.scoop(0, 1, 1);
        String line = line(x);
        x.save();
        x.digit(4, 0);
        x.digit(1, 0);
        x.digit(2, 0);
        x.next();
        is("restore", x.restore(), 3);
        is("line", line(x), line);
        is("turn", x.turn(), 1);
        is("digit", x.digitOf(4), 5);
        is("games", x.account(5), 0);
        is("lying", x.account(4), 0);
        is("won", x.monkOf(0, 2), 0);
        is("scoops of this game", x.account(6), 1);
        is("changes", x.account(9), 0);
        fails("undo behind restore", STATE, x::undo);
        x.pit(2);
        is("restore again", x.restore(), 3);
        is("line again", line(x), line);
    }

    public static void main(String[] args) {
        Call[] promises = {
            PromisesTest::newObject, PromisesTest::pit, PromisesTest::digit, PromisesTest::digitOf,
            PromisesTest::pitOf, PromisesTest::ranked, PromisesTest::scoop, PromisesTest::play,
            PromisesTest::scoops, PromisesTest::scoopAt, PromisesTest::told, PromisesTest::wins,
            PromisesTest::next, PromisesTest::turn, PromisesTest::monkOf, PromisesTest::value,
            PromisesTest::lists, PromisesTest::listed, PromisesTest::sum, PromisesTest::period,
            PromisesTest::least, PromisesTest::line, PromisesTest::valuesLine, PromisesTest::character,
            PromisesTest::append, PromisesTest::run, PromisesTest::errorPosition, PromisesTest::refusal,
            PromisesTest::account, PromisesTest::isWell, PromisesTest::meanMarbles, PromisesTest::share,
            PromisesTest::undo, PromisesTest::save, PromisesTest::restore,
        };
        for (int promise = 1; promise <= promises.length; promise++) {
            test("promise " + promise, promises[promise - 1]);
        }
        end();
    }
}
