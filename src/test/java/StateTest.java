/** Tests the edges of the promises 29 to 35: accounts, shares, undo and the snapshot. */
public final class StateTest extends Checks {
    /** A garden in which each of the numbers that changes can change is another than in a new one. */
    private static MonkMarbles lived() {
        MonkMarbles x = new MonkMarbles();
        run(x, "p1;p2");
        x.digit(2, 0);
        x.scoop(0, 1, 0);
        x.scoop(0, 1, 1);
        x.digit(1, 0);
        x.next();
        run(x, "c1=5;p6;s0-1/2");
        return x;
    }

    /** The values are 1 for odd numbers and 0 for even ones: 1 is taken of a pit of 1, or splits another. */
    private static void isLived(MonkMarbles x, int changes) {
        is("lived", stateOf(x), "pits 2 3, digits 5 0 0 0 0 0, turn 1, monks 2 2 0 1 1 1 1 0, accounts "
                + "2 5 9 3 1 1 1 1 - " + changes + ", values 1=1 0=0 1=1 0=0, sum 1");
    }

    private static void account() {
        test("29: what is not from 0 to 9", () -> {
            for (int what : new int[] {-1, 10, 11, LEAST, MOST}) {
                stays("account(" + what + ")", ARGUMENT, StateTest::lived, x -> x.account(what));
            }
        });
        test("29: 0 for the pits, none and the most", () -> {
            is("none", new MonkMarbles().account(0), 0);
            is("forty", ones(40).account(0), 40);
        });
        test("29: 1 for the marbles in them, none and the most", () -> {
            is("none", new MonkMarbles().account(1), 0);
            is("forty", with(30, 10).account(1), 40);
            is("forty ones", ones(40).account(1), 40);
        });
        test("29: 2 for the marbles that came in pits, also those that are gone", () -> {
            MonkMarbles x = with(30, 10);
            x.scoop(0, 2, 13);
            is("behind a scoop", x.account(2), 40);
            x.pit(2);
            is("behind a pit more", x.account(2), 42);
            run(x, "c1=0;c2=0;n;p30");
            is("behind the next game", x.account(2), 72);
        });
        test("29: 2 not for a pit that is refused", () -> {
            MonkMarbles x = with(30);
            fails("pit", REFUSED, () -> x.pit(11));
            fails("run", REFUSED, () -> run(x, "p10;p1"));
            is("came", x.account(2), 30);
        });
        test("29: 3 for the marbles taken, by both monks, in all games", () -> {
            MonkMarbles x = with(3);
            x.scoop(0, 2, 1);
            is("by one", x.account(3), 2);
            x.scoop(0, 1, 0);
            is("by both", x.account(3), 3);
            x.next();
            x.pit(1);
            x.scoop(0, 1, 0);
            is("in the next game", x.account(3), 4);
        });
        test("29: 4 for the marbles that lay in pits as a next game began", () -> {
            MonkMarbles x = withoutDigits();
            x.next();
            is("none", x.account(4), 0);
            x.pit(30);
            x.pit(10);
            is("those that lie now do not count", x.account(4), 0);
            x.next();
            is("all", x.account(4), 40);
            x.pit(1);
            x.next();
            is("and one more", x.account(4), 41);
        });
        test("29: 5 for the games so far, those without a winner included", () -> {
            MonkMarbles x = new MonkMarbles();
            is("none", x.account(5), 0);
            x.next();
            is("one without a winner", x.account(5), 1);
            x.pit(1);
            x.scoop(0, 1, 0);
            x.next();
            is("one with a winner", x.account(5), 2);
        });
        test("29: 6 for the scoops of this game, by both monks", () -> {
            MonkMarbles x = with(2, 1);
            is("none", x.account(6), 0);
            x.scoop(0, 1, 1);
            is("one", x.account(6), 1);
            x.scoop(0, 1, 0);
            x.play();
            is("three", x.account(6), 3);
            x.next();
            is("in the next game", x.account(6), 0);
        });
        test("29: 7 for the greatest value of a number of marbles, in a pit or not", () -> {
            is("of 27", with(1).account(7), 8);
            is("of none", withoutDigits().account(7), 0);
            is("of 30 alone", withDigits(1, 6, 0, 0, 0, 0).account(7), 5);
            is("of 1 alone", withOnly(1, 1).account(7), 1);
            is("of 29 and great", withDigits(7, 3, 4, 7, 6, 4).account(7), 25);
        });
        test("29: 8 for the characters in the input, none and the most", () -> {
            MonkMarbles x = new MonkMarbles();
            is("none", x.account(8), 0);
            for (int count = 1; count <= 60; count++) {
                x.append('n');
                is("characters", x.account(8), count);
            }
            fails("one more", STATE, () -> x.append('n'));
            is("the most", x.account(8), 60);
        });
        test("29: 9 for the changes that can be undone, none and the most", () -> {
            MonkMarbles x = new MonkMarbles();
            is("none", x.account(9), 0);
            for (int changes = 1; changes <= 10; changes++) {
                x.pit(1);
                is("changes", x.account(9), changes < 8 ? changes : 8);
            }
            x.undo();
            is("one less", x.account(9), 7);
        });
        test("29: all accounts of a garden that has lived", () -> isLived(lived(), 7));
    }

    private static void isWell() {
        test("30: all is well at first and with the most marbles", () -> {
            is("at first", new MonkMarbles().isWell(), true);
            is("40 marbles", with(30, 10).isWell(), true);
            is("40 pits", ones(40).isWell(), true);
        });
        test("30: all is well with 10 marbles and with 11", () -> {
            is("10", with(4, 6).isWell(), true);
            is("10 alike", with(5, 5).isWell(), true);
            is("11", with(4, 7).isWell(), true);
        });
        test("30: all is well as marbles are taken, and as they lie as a next game begins", () -> {
            MonkMarbles x = with(5, 3);
            x.scoop(0, 1, 2);
            is("taken", x.isWell(), true);
            x.play();
            is("told", x.isWell(), true);
            MonkMarbles y = with(5, 3);
            y.scoop(0, 2, 3);
            is("2 taken", y.isWell(), true);
            run(x, "c1=0;c2=0;n");
            is("left lying", x.isWell(), true);
            is("lying", x.account(4), 6);
        });
        test("30: all is well behind undo and restore", () -> {
            MonkMarbles x = with(5, 3);
            x.save();
            x.scoop(0, 1, 2);
            x.digit(1, 3);
            x.undo();
            is("behind undo", x.isWell(), true);
            x.digit(2, 0);
            x.restore();
            is("behind restore", x.isWell(), true);
        });
        test("30: to ask changes nothing, a scoop told or not", () -> {
            MonkMarbles x = lived();
            x.line();
            String before = stateOf(x) + besidesOf(x) + reasonOf(x);
            is("isWell", x.isWell(), true);
            is("behind it", stateOf(x) + besidesOf(x) + reasonOf(x), before);
            MonkMarbles y = with(5, 3);
            y.isWell();
            is("told", y.told(0) * 100 + y.told(1) * 10 + y.told(2), 21);
            is("line", line(y), "5:4 3:3 =7");
            is("undo", y.undo(), 1);
            is("line behind undo", line(y), "5:4 =4");
        });
    }

    private static void means() {
        test("31: there are no pits", () -> {
            stays("at first", ARITHMETIC, MonkMarbles::new, MonkMarbles::meanMarbles);
            stays("in a next game", ARITHMETIC, StateTest::emptied, MonkMarbles::meanMarbles);
        });
        test("31: one pit, and forty", () -> {
            is("of 1", with(1).meanMarbles(), 1.0);
            is("of 30", with(30).meanMarbles(), 30.0);
            is("of forty", ones(40).meanMarbles(), 1.0);
            is("of thirty-nine", ones(39).meanMarbles(), 1.0);
        });
        test("31: it is divided as doubles", () -> {
            is("3 by 2", with(1, 2).meanMarbles(), 1.5);
            is("40 by 3", with(30, 9, 1).meanMarbles(), 40.0 / 3.0);
            is("20 by 7", with(2, 3, 3, 3, 3, 3, 3).meanMarbles(), 20.0 / 7.0);
        });
        test("32: there is no such monk", () -> {
            for (int monk : new int[] {-1, 2, LEAST, MOST}) {
                stays("share(" + monk + ")", INDEX, StateTest::lived, x -> x.share(monk));
            }
        });
        test("32: there were no scoops", () -> {
            stays("share(0)", ARITHMETIC, MonkMarbles::new, x -> x.share(0));
            stays("share(1)", ARITHMETIC, () -> with(3), x -> x.share(1));
        });
        test("32: no such monk stands before no scoops", () -> {
            stays("share(2)", INDEX, MonkMarbles::new, x -> x.share(2));
            stays("share(-1)", INDEX, MonkMarbles::new, x -> x.share(-1));
        });
        test("32: all and none", () -> {
            MonkMarbles x = with(2);
            x.scoop(0, 1, 1);
            is("all", x.share(0), 1.0f);
            is("none", x.share(1), 0.0f);
        });
        test("32: it is divided as floats", () -> {
            MonkMarbles x = with(9);
            run(x, "s0-1;s0-1;s0-1");
            is("2 of 3", x.share(0), 2.0f / 3.0f);
            is("1 of 3", x.share(1), 1.0f / 3.0f);
        });
        test("32: scoops are counted, not the marbles taken", () -> {
            MonkMarbles x = with(9);
            run(x, "s0-2;s0-1;s0-2");
            is("2 of 3", x.share(0), 2.0f / 3.0f);
            is("1 of 3", x.share(1), 1.0f / 3.0f);
        });
        test("32: the scoops of games before count, those that are undone do not", () -> {
            MonkMarbles x = emptied();
            is("behind the next game", x.share(0), 1.0f);
            x.undo();
            x.undo();
            fails("behind undo", ARITHMETIC, () -> x.share(0));
        });
    }

    private static MonkMarbles emptied() {
        MonkMarbles x = with(1);
        x.scoop(0, 1, 0);
        x.next();
        return x;
    }

    private static void undo() {
        test("33: no change can be undone", () -> {
            stays("at first", STATE, MonkMarbles::new, MonkMarbles::undo);
            MonkMarbles x = with(5);
            is("undo", x.undo(), 0);
            stays("behind the only change", STATE, () -> x, MonkMarbles::undo);
        });
        test("33: with just 8 changes all are undone", () -> {
            MonkMarbles x = ones(8);
            for (int left = 7; left >= 0; left--) {
                is("undo", x.undo(), left);
                is("pits", x.account(0), left);
            }
            fails("one more", STATE, x::undo);
        });
        test("33: with 9 changes the first one stays", () -> {
            MonkMarbles x = ones(9);
            for (int left = 7; left >= 0; left--) {
                is("undo", x.undo(), left);
                is("pits", x.account(0), left + 1);
            }
            fails("one more", STATE, x::undo);
        });
        test("33: the 8 go round, also behind some that were undone", () -> {
            MonkMarbles x = ones(12);
            for (int times = 0; times < 5; times++) {
                x.undo();
            }
            is("pits", x.account(0), 7);
            for (int pit = 7; pit < 20; pit++) {
                is("pit", x.pit(2), pit);
            }
            for (int left = 7; left >= 0; left--) {
                is("undo", x.undo(), left);
                is("pits", x.account(0), left + 12);
                is("marbles", x.account(1), 7 + 2 * (left + 5));
            }
            fails("one more", STATE, x::undo);
        });
        test("33: a change behind an undo is undone as any other", () -> {
            MonkMarbles x = with(5, 3);
            x.undo();
            x.pit(4);
            is("undo", x.undo(), 1);
            is("line", line(x), "5:4 =4");
            is("undo again", x.undo(), 0);
            is("line again", line(x), "=0");
        });
        test("33: each kind of change is undone in all that it changed", () -> {
            isUndone("pit", x -> x.pit(7));
            isUndone("digit", x -> x.digit(1, 2));
            isUndone("scoop", x -> x.scoop(1, 1, 1));
            isUndone("run", x -> run(x, "p3;c2=7;s0-2;s1-1/1"));
            MonkMarbles y = with(5, 3);
            String before = stateOf(y);
            y.play();
            y.undo();
            is("behind undo of play", stateOf(y), before);
            MonkMarbles z = with(2, 3);
            run(z, "s0-1;c1=0;c2=0");
            String over = stateOf(z);
            z.next();
            z.undo();
            is("behind undo of next", stateOf(z), over);
        });
        test("33: a scoop that was undone wins no game", () -> {
            MonkMarbles x = with(2);
            x.scoop(0, 1, 1);
            x.undo();
            run(x, "c1=0;c2=0");
            is("the winner", x.next(), -1);
            is("won by 0", x.monkOf(0, 2), 0);
        });
        test("33: the snapshot is not undone", () -> {
            MonkMarbles x = with(5);
            x.pit(3);
            x.save();
            x.undo();
            x.undo();
            is("restore", x.restore(), 2);
            is("line", line(x), "5:4 3:3 =7");
        });
    }

    private static void isUndone(String what, Use change) {
        MonkMarbles x = lived();
        change.on(x);
        is("changes behind " + what, x.account(9), 8);
        is("undo of " + what, x.undo(), 7);
        isLived(x, 7);
    }

    private static void save() {
        test("34: it returns the pits, none and the most", () -> {
            is("none", new MonkMarbles().save(), 0);
            is("two", with(5, 3).save(), 2);
            is("forty", ones(40).save(), 40);
        });
        test("34: to save changes nothing, and is no change", () -> {
            MonkMarbles x = lived();
            x.save();
            isLived(x, 7);
            is("undo", x.undo(), 6);
        });
        test("34: a snapshot stands in place of an earlier one", () -> {
            MonkMarbles x = with(5);
            x.save();
            x.pit(3);
            x.save();
            x.pit(4);
            is("restore", x.restore(), 2);
            is("line", line(x), "5:4 3:3 =7");
            MonkMarbles y = with(5, 3);
            y.save();
            run(y, "c1=0;c2=0;n");
            y.save();
            is("restore of an empty one", y.restore(), 0);
            is("digit", y.digitOf(1), 0);
        });
        test("34: the snapshot does not change with the garden", () -> {
            MonkMarbles x = lived();
            x.save();
            run(x, "p9;c6=7;c2=7;s0-2;s0-1/1");
            x.digit(1, 0);
            is("restore", x.restore(), 2);
            isLived(x, 0);
        });
    }

    private static void restore() {
        test("35: there is no snapshot", () -> {
            stays("at first", STATE, MonkMarbles::new, MonkMarbles::restore);
            MonkMarbles x = lived();
            fails("restore", STATE, x::restore);
            isLived(x, 7);
            is("undo", x.undo(), 6);
        });
        test("35: it returns the pits, none and the most", () -> {
            MonkMarbles x = new MonkMarbles();
            x.save();
            x.pit(5);
            is("none", x.restore(), 0);
            MonkMarbles y = ones(40);
            y.save();
            y.scoop(0, 1, 0);
            is("forty", y.restore(), 40);
            is("pits", y.account(0), 40);
        });
        test("35: the snapshot stays", () -> {
            MonkMarbles x = lived();
            x.save();
            for (int times = 0; times < 3; times++) {
                x.pit(9);
                x.digit(1, 7);
                x.scoop(0, 1, 1);
                is("restore", x.restore(), 2);
                isLived(x, 0);
            }
            is("restore at once again", x.restore(), 2);
            isLived(x, 0);
        });
        test("35: it forgets the changes, also if there were 8 and more", () -> {
            MonkMarbles x = ones(11);
            x.save();
            is("changes", x.account(9), 8);
            x.restore();
            is("changes then", x.account(9), 0);
            fails("undo", STATE, x::undo);
        });
        test("35: changes behind it can be undone, down to what was restored", () -> {
            MonkMarbles x = ones(11);
            x.save();
            x.pit(2);
            x.restore();
            for (int pit = 11; pit < 20; pit++) {
                x.pit(1);
            }
            for (int left = 7; left >= 0; left--) {
                is("undo", x.undo(), left);
                is("pits", x.account(0), 12 + left);
            }
            fails("one more", STATE, x::undo);
            is("restore", x.restore(), 11);
        });
        test("35: it is no change itself", () -> {
            MonkMarbles x = with(5);
            x.save();
            x.restore();
            is("changes", x.account(9), 0);
        });
    }

    public static void main(String[] args) {
        account();
        isWell();
        means();
        undo();
        save();
        restore();
        end();
    }
}
