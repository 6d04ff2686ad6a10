/** Tests the edges of the promises 7 to 15: scoops and games. */
public final class ScoopsTest extends Checks {
    private static final int[] ALL_SEVEN = {7, 7, 7, 7, 7, 7};

    /** A garden with a scoop made in it, so that a wrong state behind a refusal can be seen. */
    private static MonkMarbles played() {
        MonkMarbles x = with(6, 3);
        x.scoop(0, 1, 5);
        return x;
    }

    private static void scoopArguments() {
        test("7: there is no such pit", () -> {
            for (int pit : new int[] {2, 3, 40, -1, LEAST, MOST}) {
                stays("scoop(" + pit + ", 1, 1)", INDEX, ScoopsTest::played, x -> x.scoop(pit, 1, 1));
            }
            stays("without pits", INDEX, MonkMarbles::new, x -> x.scoop(0, 1, 0));
        });
        test("7: what is taken is not from 1 to 6", () -> {
            for (int take : new int[] {0, -1, 7, 8, LEAST, MOST}) {
                stays("scoop(0, " + take + ", 1)", ARGUMENT, ScoopsTest::played, x -> x.scoop(0, take, 1));
                stays("scoop(0, " + take + ", 0)", ARGUMENT, ScoopsTest::played, x -> x.scoop(0, take, 0));
            }
        });
        test("7: 1 and 6 are the ends of what is taken", () -> {
            MonkMarbles x = withDigits(ALL_SEVEN);
            x.pit(9);
            is("1", x.scoop(0, 1, 8), 1);
            is("6", x.scoop(0, 6, 2), 1);
        });
        test("7: what is left is below 0", () -> {
            for (int left : new int[] {-1, -5, LEAST}) {
                stays("scoop(0, 1, " + left + ")", ARGUMENT, ScoopsTest::played, x -> x.scoop(0, 1, left));
            }
            stays("6 of 3, and 3 less than nothing", ARGUMENT, ScoopsTest::played, x -> x.scoop(1, 6, -3));
        });
        test("7: what is left is 0 though others would come to a new pit", () -> {
            stays("1 of 5", ARGUMENT, ScoopsTest::played, x -> x.scoop(0, 1, 0));
            stays("2 of 3", ARGUMENT, ScoopsTest::played, x -> x.scoop(1, 2, 0));
            stays("4 of 5, whose digit is 0", ARGUMENT, ScoopsTest::played, x -> x.scoop(0, 4, 0));
        });
        test("7: what is left is 0, and nothing else is left over", () -> is("2 of 2", with(2).scoop(0, 2, 0), 0));
        test("7: no such pit stands before all else", () -> {
            stays("a pit and all", INDEX, ScoopsTest::played, x -> x.scoop(2, 7, -1));
            stays("a pit and reason 2", INDEX, ScoopsTest::played, x -> x.scoop(2, 2, 30));
            stays("a pit below 0", INDEX, ScoopsTest::played, x -> x.scoop(-1, 0, 0));
        });
        test("7: wrong numbers stand before the reasons 2 and 3", () -> {
            stays("take 7 of 3", ARGUMENT, ScoopsTest::played, x -> x.scoop(1, 7, 0));
            stays("take 0, leave more", ARGUMENT, ScoopsTest::played, x -> x.scoop(1, 0, 4));
            stays("take 6, leave -1", ARGUMENT, ScoopsTest::played, x -> x.scoop(1, 6, -1));
            stays("take by a digit 0, leave 0", ARGUMENT, ScoopsTest::played, x -> x.scoop(0, 3, 0));
        });
    }

    private static void scoopReasons() {
        test("7: reason 2 if the pit has one marble fewer, not if it has so many", () -> {
            staysRefused("1 and 5 of 5", 2, 5, ScoopsTest::played, x -> x.scoop(0, 1, 5));
            is("1 and 4 of 5", played().scoop(0, 1, 4), 2);
            staysRefused("2 and 2 of 3", 2, 3, ScoopsTest::played, x -> x.scoop(1, 2, 2));
            is("2 and 1 of 3", played().scoop(1, 2, 1), 2);
            staysRefused("2 and 0 of 1", 2, 1, () -> with(1), x -> x.scoop(0, 2, 0));
        });
        test("7: reason 2 if far more is left than an int can tell together with what is taken", () -> {
            staysRefused("6 and the most", 2, 3, ScoopsTest::played, x -> x.scoop(1, 6, MOST));
            staysRefused("1 and the most", 2, 5, ScoopsTest::played, x -> x.scoop(0, 1, MOST));
            staysRefused("2 and 31", 2, 30, () -> with(30), x -> x.scoop(0, 2, 31));
        });
        test("7: reason 2 stands before reason 3", () -> {
            staysRefused("take 4 of 3 by a digit 0", 2, 3, ScoopsTest::played, x -> x.scoop(1, 4, 0));
            staysRefused("take 3 and leave 3 of 5", 2, 5, ScoopsTest::played, x -> x.scoop(0, 3, 3));
        });
        test("7: reason 3 if all is taken without 1", () -> {
            for (int digit = 0; digit <= 6; digit += 2) {
                int due = digit;
                staysRefused("digit " + due, 3, due, () -> garden(due, 4), x -> x.scoop(0, 4, 0));
            }
        });
        test("7: reason 3 if the others stay without 2", () -> {
            for (int digit : new int[] {0, 1, 4, 5}) {
                staysRefused("digit " + digit, 3, digit, () -> garden(digit, 5), x -> x.scoop(0, 4, 1));
                staysRefused("digit " + digit, 3, digit, () -> garden(digit, 30), x -> x.scoop(0, 4, 26));
            }
        });
        test("7: reason 3 if a pit is split without 4", () -> {
            for (int digit = 0; digit <= 3; digit++) {
                int due = digit;
                staysRefused("digit " + due, 3, due, () -> garden(due, 6), x -> x.scoop(0, 4, 1));
                staysRefused("digit " + due, 3, due, () -> garden(due, 30), x -> x.scoop(0, 4, 25));
            }
        });
        test("7: a scoop may be made by a digit that has what it needs and no more", () -> {
            is("all by 1", garden(1, 4).scoop(0, 4, 0), 0);
            is("stay by 2", garden(2, 5).scoop(0, 4, 1), 1);
            is("split by 4", garden(4, 6).scoop(0, 4, 1), 2);
        });
        test("7: the digit is that of what is taken, not of what is left", () -> {
            MonkMarbles x = withDigits(0, 7, 0, 0, 0, 0);
            x.pit(4);
            refused(x, "take 1, leave 2", 3, 0, () -> x.scoop(0, 1, 2));
            is("take 2, leave 1", x.scoop(0, 2, 1), 2);
        });
    }

    /** A garden with one pit, where only 4 may be taken, by its digit. */
    private static MonkMarbles garden(int digit, int marbles) {
        MonkMarbles x = withOnly(4, digit);
        x.pit(marbles);
        return x;
    }

    private static void scoopEffects() {
        test("7: it returns how many pits there are then", () -> {
            MonkMarbles x = with(5, 3);
            is("split", x.scoop(0, 1, 1), 3);
            is("stay", x.scoop(2, 1, 2), 3);
            is("all", x.scoop(0, 1, 0), 2);
        });
        test("7: the last marble of the garden", () -> is("pits", with(1).scoop(0, 1, 0), 0));
        test("7: what is counted of a scoop", () -> {
            MonkMarbles x = withDigits(ALL_SEVEN);
            x.pit(30);
            x.scoop(0, 6, 10);
            is("scoops of 0", x.monkOf(0, 0), 1);
            is("taken by 0", x.monkOf(0, 1), 6);
            is("scoops of 0 in this game", x.monkOf(0, 3), 1);
            is("scoops of 1", x.monkOf(1, 0), 0);
            is("marbles", x.account(1), 24);
            is("came", x.account(2), 30);
            is("taken", x.account(3), 6);
            is("scoops of this game", x.account(6), 1);
            is("changes", x.account(9), 6);
        });
    }

    private static void play() {
        test("8: no scoop is told", () -> {
            stays("without pits", MISSING, MonkMarbles::new, MonkMarbles::play);
            stays("with the sum 0", MISSING, () -> with(3, 3), MonkMarbles::play);
            stays("without digits", MISSING, ScoopsTest::stuck, MonkMarbles::play);
        });
        test("8: the scoop told is made, and counted for the monk at the turn", () -> {
            MonkMarbles x = played();
            // 5 and 3: 2 of 5 leave 1 and 2, together 3
            is("pits", x.play(), 3);
            is("line", line(x), "1:1 3:3 2:2 =0");
            is("turn", x.turn(), 0);
            is("scoops of 1", x.monkOf(1, 0), 1);
            is("taken by 1", x.monkOf(1, 1), 2);
            is("scoops of 1 in this game", x.monkOf(1, 3), 1);
            is("changes", x.account(9), 4);
        });
        test("8: the last marble of the garden", () -> {
            MonkMarbles x = with(1);
            is("pits", x.play(), 0);
            is("the winner", x.next(), 0);
        });
        test("8: what it makes can be undone", () -> {
            MonkMarbles x = with(5, 3);
            x.play();
            is("undo", x.undo(), 2);
            is("line", line(x), "5:4 3:3 =7");
            is("turn", x.turn(), 0);
        });
    }

    private static MonkMarbles stuck() {
        MonkMarbles x = withoutDigits();
        x.pit(30);
        x.pit(10);
        return x;
    }

    private static void scoops() {
        test("9: none", () -> {
            is("without pits", new MonkMarbles().scoops(), 0);
            is("without digits", stuck().scoops(), 0);
        });
        test("9: one", () -> is("scoops", with(1).scoops(), 1));
        test("9: the scoops of all pits, the last one too", () -> {
            is("of 1 and 2", with(1, 2).scoops(), 3);
            is("of 2 and 1", with(2, 1).scoops(), 3);
            is("of 30 and 10", with(30, 10).scoops(), 57 + 17);
        });
        test("9: the most", () -> is("scoops", full().scoops(), 198));
    }

    /** A full garden with all digits: 30 can be scooped in 6 + 28 + 27 + .. + 23 ways, 10 in 6 + 8 + 7 + .. + 3. */
    private static MonkMarbles full() {
        MonkMarbles x = withDigits(ALL_SEVEN);
        x.pit(30);
        x.pit(10);
        return x;
    }

    private static void isScoop(MonkMarbles x, int place, int pit, int take, int left) {
        is("pit of " + place, x.scoopAt(place, 0), pit);
        is("taken of " + place, x.scoopAt(place, 1), take);
        is("left of " + place, x.scoopAt(place, 2), left);
    }

    private static void scoopAt() {
        test("10: there is no such place", () -> {
            for (int place : new int[] {10, 11, 40, -1, LEAST, MOST}) {
                stays("scoopAt(" + place + ", 0)", MISSING, () -> with(5, 3), x -> x.scoopAt(place, 0));
            }
            stays("without pits", MISSING, MonkMarbles::new, x -> x.scoopAt(0, 0));
            stays("without digits", MISSING, ScoopsTest::stuck, x -> x.scoopAt(0, 0));
            stays("behind the most", MISSING, ScoopsTest::full, x -> x.scoopAt(198, 2));
        });
        test("10: what is not from 0 to 2", () -> {
            for (int what : new int[] {-1, 3, LEAST, MOST}) {
                stays("scoopAt(9, " + what + ")", ARGUMENT, () -> with(5, 3), x -> x.scoopAt(9, what));
            }
        });
        test("10: no such place stands before what is not", () -> {
            stays("scoopAt(10, 3)", MISSING, () -> with(5, 3), x -> x.scoopAt(10, 3));
            stays("scoopAt(-1, -1)", MISSING, () -> with(5, 3), x -> x.scoopAt(-1, -1));
        });
        test("10: the first and the last place", () -> {
            MonkMarbles x = with(5, 3);
            isScoop(x, 0, 0, 1, 1);
            isScoop(x, 9, 1, 2, 1);
            MonkMarbles y = full();
            isScoop(y, 0, 0, 1, 1);
            isScoop(y, 158, 0, 6, 24);
            isScoop(y, 159, 1, 1, 1);
            isScoop(y, 197, 1, 6, 4);
        });
        test("10: scoops stand by their pits", () -> {
            MonkMarbles x = with(1, 1, 1);
            for (int pit = 0; pit < 3; pit++) {
                isScoop(x, pit, pit, 1, 0);
            }
        });
        test("10: scoops of a pit stand by what they take, then by what they leave", () -> {
            MonkMarbles x = withDigits(7, 7, 7, 7, 0, 0);
            x.pit(4);
            int[][] due = {{1, 1}, {1, 2}, {1, 3}, {2, 1}, {2, 2}, {3, 1}, {4, 0}};
            is("scoops", x.scoops(), due.length);
            for (int place = 0; place < due.length; place++) {
                isScoop(x, place, 0, due[place][0], due[place][1]);
            }
        });
        test("10: the last of forty pits", () -> {
            MonkMarbles x = ones(40);
            isScoop(x, 39, 39, 1, 0);
            fails("one behind it", MISSING, () -> x.scoopAt(40, 0));
        });
        test("10: the digits count as they are", () -> {
            MonkMarbles x = with(3);
            x.digit(1, 2);
            isScoop(x, 0, 0, 1, 2);
            isScoop(x, 1, 0, 2, 1);
            x.digit(3, 1);
            isScoop(x, 2, 0, 3, 0);
        });
        test("10: a pit of which no scoop may be made is passed by", () -> {
            MonkMarbles x = withOnly(3, 1);
            x.pit(2);
            x.pit(3);
            x.pit(4);
            isScoop(x, 0, 1, 3, 0);
            fails("place 1", MISSING, () -> x.scoopAt(1, 0));
        });
    }

    private static void told() {
        test("11: no scoop is told", () -> {
            for (int what = 0; what < 3; what++) {
                int part = what;
                stays("without pits", MISSING, MonkMarbles::new, x -> x.told(part));
                stays("with the sum 0", MISSING, () -> with(5, 5), x -> x.told(part));
                stays("without digits", MISSING, ScoopsTest::stuck, x -> x.told(part));
            }
        });
        test("11: what is not from 0 to 2", () -> {
            for (int what : new int[] {-1, 3, LEAST, MOST}) {
                stays("told(" + what + ")", ARGUMENT, () -> with(5, 3), x -> x.told(what));
            }
        });
        test("11: that no scoop is told stands before what is not", () -> {
            stays("told(3)", MISSING, MonkMarbles::new, x -> x.told(3));
            stays("told(-1)", MISSING, () -> with(5, 5), x -> x.told(-1));
        });
        test("11: of the last of many pits", () -> {
            is("of 39 alike the first", told(ones(39)), 100);
            MonkMarbles y = ones(11);
            y.pit(6);
            // eleven of value 1 together: of 6, whose value is 3, 2 and 3 are left, of value 1 together
            is("told", told(y), 11102);
        });
        test("11: the digits count as they are", () -> {
            MonkMarbles x = with(3);
            is("at first", told(x), 101);
            x.digit(1, 2);
            // the values of 1 and 2 are 0 and 1 then, so that 1 must be left
            is("with another digit", told(x), 201);
            x.digit(3, 1);
            x.digit(2, 0);
            is("with a third", told(x), 300);
        });
        test("11: with forty marbles, of the last pit", () -> {
            MonkMarbles x = with(4, 4, 1, 1, 30);
            // of 30, whose value is 7, what is left must have the value 0: 4 and 25, both of value 1
            is("told", told(x), 4104);
        });
        test("11: a scoop that takes all, one that lets stay, and one that splits", () -> {
            is("all of 1", told(with(1)), 100);
            is("all of 2", told(with(2)), 200);
            MonkMarbles x = withOnly(6, 2);
            x.pit(7);
            is("6 of 7", told(x), 601);
            MonkMarbles y = withOnly(6, 4);
            y.pit(8);
            is("6 of 8", told(y), 601);
        });
    }

    /** The scoop told: its pit in the thousands, what it takes in the hundreds, what it leaves in the rest. */
    private static int told(MonkMarbles x) {
        return x.told(0) * 1000 + x.told(1) * 100 + x.told(2);
    }

    private static void wins() {
        test("12: the second way is refused from 11 marbles on", () -> {
            stays("11 in one pit", STATE, () -> with(11), x -> x.wins(true));
            stays("11 in two", STATE, () -> with(1, 10), x -> x.wins(true));
            stays("40", STATE, () -> with(30, 10), x -> x.wins(true));
            stays("11 without digits", STATE, ScoopsTest::stuck, x -> x.wins(true));
        });
        test("12: the second way is taken up to 10 marbles", () -> {
            is("10 in one pit", with(10).wins(true), true);
            is("10 in two", with(5, 5).wins(true), false);
            is("10 in two others", with(4, 6).wins(true), true);
            is("0", new MonkMarbles().wins(true), false);
            is("1", with(1).wins(true), true);
        });
        test("12: the first way is taken with any marbles", () -> {
            is("11", with(11).wins(false), true);
            is("40", with(30, 10).wins(false), true);
            is("40 alike", with(20, 20).wins(false), false);
            is("0", new MonkMarbles().wins(false), false);
        });
        test("12: ten pits of one, and nine", () -> {
            MonkMarbles x = new MonkMarbles();
            for (int pit = 1; pit <= 10; pit++) {
                x.pit(1);
                is("again with " + pit, x.wins(true), pit % 2 == 1);
                is("with " + pit, x.wins(false), pit % 2 == 1);
            }
        });
        test("12: the monk at the turn does not win if no scoop may be made", () -> {
            MonkMarbles x = withoutDigits();
            x.pit(10);
            is("by values", x.wins(false), false);
            is("by trying", x.wins(true), false);
        });
        test("12: it is told for the monk at the turn, whoever that is", () -> {
            MonkMarbles x = with(3, 2);
            x.scoop(0, 1, 2);
            is("by values", x.wins(false), false);
            is("by trying", x.wins(true), false);
            x.scoop(0, 2, 0);
            is("by values then", x.wins(false), true);
            is("by trying then", x.wins(true), true);
        });
        test("12: trying takes up to 6, in each way", () -> {
            for (int digit = 1; digit <= 4; digit *= 2) {
                MonkMarbles x = withOnly(6, digit);
                // all of 6, or others of 7 that stay, or others of 8 that are split
                int marbles = digit == 1 ? 6 : digit == 2 ? 7 : 8;
                x.pit(marbles - 1);
                is("one marble fewer", x.wins(true), false);
                x.undo();
                x.pit(marbles);
                is("so many", x.wins(true), true);
            }
        });
        test("12: trying counts with the digits as they are", () -> {
            MonkMarbles x = with(3, 2);
            is("at first", x.wins(true), true);
            x.digit(1, 0);
            // then 2 may be taken: of 3 and of 2, one scoop each
            is("with another digit", x.wins(true), false);
        });
    }

    private static void next() {
        test("13: reason 5 with the scoops that may be made", () -> {
            staysRefused("one", 5, 1, () -> with(1), x -> x.next());
            staysRefused("of 5 and 3", 5, 10, ScoopsTest::played, x -> x.next());
            staysRefused("the most", 5, 198, ScoopsTest::full, x -> x.next());
        });
        test("13: no winner", () -> {
            is("at first", new MonkMarbles().next(), -1);
            is("with pits", stuck().next(), -1);
        });
        test("13: each monk wins", () -> {
            MonkMarbles x = with(1);
            x.scoop(0, 1, 0);
            is("0", x.next(), 0);
            x.pit(1);
            x.scoop(0, 1, 0);
            is("1", x.next(), 1);
            is("won by 0", x.monkOf(0, 2), 1);
            is("won by 1", x.monkOf(1, 2), 1);
            is("games", x.account(5), 2);
        });
        test("13: a game can be over with pits, and is won too", () -> {
            MonkMarbles x = withOnly(2, 3);
            x.pit(3);
            x.pit(1);
            x.scoop(0, 2, 1);
            is("the winner", x.next(), 0);
            is("pits", x.account(0), 0);
            is("lying", x.account(4), 2);
        });
        test("13: the scoops of the game begin anew, those so far do not", () -> {
            MonkMarbles x = with(2, 1);
            x.scoop(0, 1, 1);
            x.scoop(0, 1, 0);
            x.scoop(0, 1, 0);
            x.next();
            is("of 0", x.monkOf(0, 3), 0);
            is("of 1", x.monkOf(1, 3), 0);
            is("of both", x.account(6), 0);
            is("of 0 so far", x.monkOf(0, 0), 2);
            is("of 1 so far", x.monkOf(1, 0), 1);
            is("taken by 0", x.monkOf(0, 1), 2);
            is("taken", x.account(3), 3);
            is("came", x.account(2), 3);
        });
        test("13: the digits and the turn stay", () -> {
            MonkMarbles x = with(1);
            x.digit(6, 5);
            x.scoop(0, 1, 0);
            x.next();
            is("turn", x.turn(), 1);
            is("digit of 6", x.digitOf(6), 5);
        });
        test("13: as many games as an object is used for", () -> {
            MonkMarbles x = new MonkMarbles();
            for (int game = 1; game <= 511; game++) {
                x.next();
            }
            is("games", x.account(5), 511);
        });
    }

    private static void turn() {
        test("14: it passes on with scoop and play, also in a text, and with nothing else", () -> {
            MonkMarbles x = with(9, 2);
            x.digit(3, 1);
            is("behind pits and a digit", x.turn(), 0);
            x.scoop(0, 1, 8);
            is("behind a scoop", x.turn(), 1);
            x.play();
            is("behind play", x.turn(), 0);
            run(x, "s0-1;s0-1;s0-1");
            is("behind three scoops of a text", x.turn(), 1);
            x.save();
            is("behind save", x.turn(), 1);
        });
        test("14: a scoop that fails leaves it", () -> {
            stays("a pit", INDEX, ScoopsTest::played, x -> x.scoop(9, 1, 1));
            is("turn", played().turn(), 1);
        });
        test("14: undo and restore give it back", () -> {
            MonkMarbles x = with(5);
            x.save();
            x.scoop(0, 1, 4);
            x.undo();
            is("behind undo", x.turn(), 0);
            x.scoop(0, 1, 4);
            x.restore();
            is("behind restore", x.turn(), 0);
        });
    }

    private static void monkOf() {
        test("15: there is no such monk", () -> {
            for (int monk : new int[] {-1, 2, LEAST, MOST}) {
                for (int what = 0; what < 4; what++) {
                    int part = what;
                    stays("monkOf(" + monk + ", " + part + ")", INDEX, ScoopsTest::played, x -> x.monkOf(monk, part));
                }
            }
        });
        test("15: what is not from 0 to 3", () -> {
            for (int what : new int[] {-1, 4, LEAST, MOST}) {
                stays("monkOf(0, " + what + ")", ARGUMENT, ScoopsTest::played, x -> x.monkOf(0, what));
                stays("monkOf(1, " + what + ")", ARGUMENT, ScoopsTest::played, x -> x.monkOf(1, what));
            }
        });
        test("15: no such monk stands before what is not", () -> {
            stays("monkOf(2, 4)", INDEX, ScoopsTest::played, x -> x.monkOf(2, 4));
            stays("monkOf(-1, -1)", INDEX, ScoopsTest::played, x -> x.monkOf(-1, -1));
        });
        test("15: each number of each monk", () -> {
            MonkMarbles x = with(1);
            x.scoop(0, 1, 0);
            x.next();
            run(x, "p5;s0-2;s0-1;s0-2;n;p9");
            x.scoop(0, 2, 7);
            // 0 took 1 and won; then 1 took 2, 0 took 1, 1 took 2 and won; then 0 took 2
            int[] due = {3, 4, 1, 1, 2, 4, 1, 0};
            for (int part = 0; part < 8; part++) {
                is("monkOf(" + part / 4 + ", " + part % 4 + ")", x.monkOf(part / 4, part % 4), due[part]);
            }
        });
    }

    public static void main(String[] args) {
        scoopArguments();
        scoopReasons();
        scoopEffects();
        play();
        scoops();
        scoopAt();
        told();
        wins();
        next();
        turn();
        monkOf();
        end();
    }
}
