/** Tests the edges that the head 'Terms' of the document names, but for those of texts. */
public final class TermsTest extends Checks {
    private static int scoopsOfOne(int take, int digit, int marbles) {
        MonkMarbles x = withOnly(take, digit);
        x.pit(marbles);
        return x.pitOf(0, 2);
    }

    private static void pits() {
        test("pits are numbered from 0 in their order", () -> {
            MonkMarbles x = with(5, 3, 4);
            is("0", x.pitOf(0, 0), 5);
            is("1", x.pitOf(1, 0), 3);
            is("2", x.pitOf(2, 0), 4);
        });
        test("a pit has 1 marble at least", () -> {
            is("a pit of 1", with(1).pitOf(0, 0), 1);
            stays("a pit of 0", ARGUMENT, MonkMarbles::new, x -> x.pit(0));
        });
        test("a pit has 30 marbles at most", () -> {
            is("a pit of 30", with(30).pitOf(0, 0), 30);
            stays("a pit of 31", ARGUMENT, MonkMarbles::new, x -> x.pit(31));
        });
        test("all pits have 40 marbles at most together", () -> {
            is("marbles of two pits", with(30, 10).account(1), 40);
            staysRefused("a marble more", 1, 41, () -> with(30, 10), x -> x.pit(1));
        });
        test("the first pit is gone without marbles, and those behind it move up", () -> {
            MonkMarbles x = with(2, 3, 4);
            is("pits", x.scoop(0, 2, 0), 2);
            is("line", line(x), "3:3 4:1 =2");
        });
        test("a pit in the middle is gone without marbles, and those behind it move up", () -> {
            MonkMarbles x = with(3, 1, 4, 5);
            is("pits", x.scoop(1, 1, 0), 3);
            is("line", line(x), "3:3 4:1 5:4 =6");
        });
        test("the last pit is gone without marbles, and those before it stay", () -> {
            MonkMarbles x = with(3, 4, 2);
            is("pits", x.scoop(2, 2, 0), 2);
            is("line", line(x), "3:3 4:1 =2");
            fails("the pit that is gone", INDEX, () -> x.pitOf(2, 0));
        });
        test("the only pit is gone without marbles", () -> {
            MonkMarbles x = with(1);
            is("pits", x.scoop(0, 1, 0), 0);
            is("line", line(x), "=0");
            fails("the pit that is gone", INDEX, () -> x.pitOf(0, 0));
        });
        test("of forty pits the first is gone, and those behind it move up", () -> {
            MonkMarbles x = ones(40);
            is("pits", x.scoop(0, 1, 0), 39);
            is("the last", x.pitOf(38, 0), 1);
            fails("one behind it", INDEX, () -> x.pitOf(39, 0));
        });
    }

    private static void digits() {
        test("with 1 all marbles may be taken of a pit that has just so many", () -> {
            for (int take = 1; take <= 6; take++) {
                is("scoops of " + take, scoopsOfOne(take, 1, take), 1);
            }
        });
        test("with 1 nothing may be taken of a pit that has fewer or more", () -> {
            for (int take = 1; take <= 6; take++) {
                is("scoops of one more than " + take, scoopsOfOne(take, 1, take + 1), 0);
                is("scoops of 30 by " + take, scoopsOfOne(take, 1, 30), 0);
                is("scoops of one less than " + take, take == 1 ? 0 : scoopsOfOne(take, 1, take - 1), 0);
            }
        });
        test("with 2 so many may be taken of a pit that has more, whose others stay", () -> {
            for (int take = 1; take <= 6; take++) {
                is("scoops of one more than " + take, scoopsOfOne(take, 2, take + 1), 1);
                is("scoops of 30 by " + take, scoopsOfOne(take, 2, 30), 1);
            }
        });
        test("with 2 nothing may be taken of a pit that has just so many, or fewer", () -> {
            for (int take = 1; take <= 6; take++) {
                is("scoops of " + take, scoopsOfOne(take, 2, take), 0);
                is("scoops of one less than " + take, take == 1 ? 0 : scoopsOfOne(take, 2, take - 1), 0);
            }
        });
        test("with 4 a pit that has at least 2 more is split", () -> {
            for (int take = 1; take <= 6; take++) {
                is("scoops of 2 more than " + take, scoopsOfOne(take, 4, take + 2), 1);
                is("scoops of 3 more than " + take, scoopsOfOne(take, 4, take + 3), 2);
                is("scoops of 30 by " + take, scoopsOfOne(take, 4, 30), 29 - take);
            }
        });
        test("with 4 a pit that has 1 more, just so many, or fewer is not split", () -> {
            for (int take = 1; take <= 6; take++) {
                is("scoops of one more than " + take, scoopsOfOne(take, 4, take + 1), 0);
                is("scoops of " + take, scoopsOfOne(take, 4, take), 0);
                is("scoops of one less than " + take, take == 1 ? 0 : scoopsOfOne(take, 4, take - 1), 0);
            }
        });
        test("a digit is the sum of some of 1, 2 and 4, and 0 of none", () -> {
            for (int digit = 0; digit <= 7; digit++) {
                is("scoops of 3 by digit " + digit, scoopsOfOne(3, digit, 3), digit % 2);
                is("scoops of 4 by digit " + digit, scoopsOfOne(3, digit, 4), digit / 2 % 2);
                is("scoops of 5 by digit " + digit, scoopsOfOne(3, digit, 5), digit / 2 % 2 + digit / 4);
            }
        });
    }

    private static void scoops() {
        test("what is neither taken nor left comes to a new pit behind all others", () -> {
            MonkMarbles x = with(6, 1, 2);
            is("pits", x.scoop(0, 1, 2), 4);
            is("line", line(x), "2:2 1:1 2:2 3:3 =2");
        });
        test("of a split one marble may be left, and one come to the new pit", () -> {
            MonkMarbles x = with(30);
            is("pits", x.scoop(0, 1, 1), 2);
            is("line", line(x), "1:1 28:5 =4");
            is("pits then", x.scoop(1, 2, 25), 3);
            is("line then", line(x), "1:1 25:1 1:1 =1");
        });
        test("no pit is made if all others are left", () -> {
            MonkMarbles x = with(6, 1);
            is("pits", x.scoop(0, 2, 4), 2);
            is("line", line(x), "4:1 1:1 =0");
        });
        test("a split makes the forty marbles no more than they were", () -> {
            MonkMarbles x = with(30, 10);
            is("pits", x.scoop(0, 1, 14), 3);
            is("marbles", x.account(1), 39);
            is("a pit of the marble that was taken", x.pit(1), 3);
        });
        test("the other monk has the turn then, and behind that the first one again", () -> {
            MonkMarbles x = with(5);
            x.scoop(0, 1, 4);
            is("turn", x.turn(), 1);
            x.scoop(0, 1, 3);
            is("turn again", x.turn(), 0);
        });
        test("a game is over if no scoop may be made, though there are pits", () -> {
            MonkMarbles x = withOnly(2, 1);
            x.pit(1);
            x.pit(3);
            is("scoops", x.scoops(), 0);
            is("next", x.next(), -1);
        });
        test("a game is not over if one scoop may be made", () ->
            staysRefused("next", 5, 1, () -> with(1), x -> x.next()));
    }

    private static void values() {
        test("the list of 0 marbles is empty, and its value is 0", () -> {
            MonkMarbles x = withDigits(7, 7, 7, 7, 7, 7);
            is("values in the list", x.listed(0), 0);
            is("lists 0", x.lists(0, 0), false);
            is("value", x.value(0, false), 0);
            is("value again", x.value(0, true), 0);
        });
        test("a list has 0 for nothing that is left", () -> {
            MonkMarbles x = withOnly(6, 1);
            is("lists(6, 0)", x.lists(6, 0), true);
            is("lists(5, 0)", x.lists(5, 0), false);
            is("lists(7, 0)", x.lists(7, 0), false);
            is("value", x.value(6, false), 1);
        });
        test("a list has the value of what stays", () -> {
            MonkMarbles x = withOnly(1, 3);
            is("lists(2, 1)", x.lists(2, 1), true);
            is("lists(2, 0)", x.lists(2, 0), false);
            is("lists(3, 0)", x.lists(3, 0), true);
            is("lists(3, 1)", x.lists(3, 1), false);
        });
        test("a list has the two values of a split pit, put together by exclusive or", () -> {
            MonkMarbles x = withDigits(3, 7, 0, 0, 0, 0);
            // 2 of 5 can leave 1 and 2, whose values 1 and 2 are 3 together; of 4 only 1 and 1
            is("values", lineOf(x, x.valuesLine(5)), "0,1,2,0,1,2");
            is("lists(5, 3)", x.lists(5, 3), true);
            is("lists(4, 0)", x.lists(4, 0), true);
            is("lists(4, 3)", x.lists(4, 3), false);
        });
        test("two values together can be more than each value", () -> {
            MonkMarbles x = withDigits(6, 4, 4, 0, 0, 0);
            is("lists(30, 17)", x.lists(30, 17), true);
            is("greatest value", x.account(7), 16);
        });
        test("the value is the least number that the list does not have, from 0 on", () -> {
            MonkMarbles x = withOnly(1, 2);
            // of 1 nothing may be taken; of 2 what stays has the value 0
            is("value of 1", x.value(1, false), 0);
            is("value of 2", x.value(2, false), 1);
            is("value of 3", x.value(3, false), 0);
        });
        test("the sum without pits is 0, and that of two alike too", () -> {
            is("without pits", new MonkMarbles().sum(), 0);
            is("of two alike", with(30, 1, 1).sum(), 7);
        });
    }

    private static void winning() {
        test("without pits the monk at the turn does not win", () -> {
            is("by values", new MonkMarbles().wins(false), false);
            is("by trying", new MonkMarbles().wins(true), false);
        });
        test("the scoop told is of the first pit", () -> {
            MonkMarbles x = with(3, 3, 3);
            is("pit", x.told(0), 0);
        });
        test("the scoop told passes by a pit that has none", () -> {
            MonkMarbles x = with(1, 2, 5);
            // of 1 and of 2 nothing with 6 or 5 can be left; 2 of 5 leave 1 and 2, together 3
            is("pit", x.told(0), 2);
            is("taken", x.told(1), 2);
            is("left", x.told(2), 1);
        });
        test("the scoop told takes the fewest marbles", () -> {
            MonkMarbles x = withDigits(0, 3, 3, 3, 0, 0);
            x.pit(5);
            // of 5, 4 leave 1 of value 0; 3 leave 2 of value 1; 2 leave 3 of value 1
            is("taken", x.told(1), 4);
            MonkMarbles y = withDigits(0, 0, 3, 3, 3, 0);
            y.pit(6);
            // 4 and 5 leave 2 and 1, both of value 0
            is("taken of two", y.told(1), 4);
            is("left of two", y.told(2), 2);
        });
        test("the scoop told leaves the fewest marbles in the pit", () -> {
            MonkMarbles x = with(6);
            // 1 and 4 have the same value, so 1 of 6 may leave either
            is("taken", x.told(1), 1);
            is("left", x.told(2), 1);
        });
        test("the sum is 0 behind the scoop told", () -> {
            MonkMarbles x = with(30, 9, 1);
            x.play();
            is("sum", x.sum(), 0);
        });
    }

    private static void games() {
        test("the monk who made the last scoop has won", () -> {
            MonkMarbles x = with(1);
            x.scoop(0, 1, 0);
            is("the monk 0 of one scoop", x.next(), 0);
            MonkMarbles y = with(1, 1);
            y.scoop(0, 1, 0);
            y.scoop(0, 1, 0);
            is("the monk 1 of two scoops", y.next(), 1);
        });
        test("a game in which nothing was scooped has no winner", () -> {
            MonkMarbles x = new MonkMarbles();
            is("next", x.next(), -1);
            is("games", x.account(5), 1);
            is("won by 0", x.monkOf(0, 2), 0);
            is("won by 1", x.monkOf(1, 2), 0);
        });
        test("a game in which nothing was scooped has no winner, though the game before had one", () -> {
            MonkMarbles x = with(1);
            x.scoop(0, 1, 0);
            x.next();
            is("next", x.next(), -1);
            is("won by 0", x.monkOf(0, 2), 1);
        });
        test("the next game begins without pits", () -> {
            MonkMarbles x = withOnly(1, 0);
            x.pit(30);
            x.pit(10);
            x.next();
            is("pits", x.account(0), 0);
            is("a pit", x.pit(30), 0);
        });
        test("the monk at the turn has it still in the next game", () -> {
            MonkMarbles x = with(1);
            is("nobody scooped", x.turn(), 0);
            x.scoop(0, 1, 0);
            x.next();
            is("one scoop", x.turn(), 1);
            x.next();
            is("no scoop", x.turn(), 1);
        });
    }

    private static void undo() {
        test("the latest 8 changes can be undone, and no more", () -> {
            MonkMarbles x = with(1, 2, 3, 4, 5, 6, 7, 8, 1);
            for (int left = 7; left >= 0; left--) {
                is("undo", x.undo(), left);
            }
            is("line", line(x), "1:1 =1");
            stays("one more", STATE, () -> x, y -> y.undo());
        });
        test("the changes are pit, digit, scoop, play, next and run", () -> {
            MonkMarbles x = new MonkMarbles();
            x.pit(5);
            is("pit", x.account(9), 1);
            x.digit(2, 6);
            is("digit", x.account(9), 2);
            x.scoop(0, 1, 4);
            is("scoop", x.account(9), 3);
            x.play();
            is("play", x.account(9), 4);
            run(x, "c1=0;c2=0");
            is("run", x.account(9), 5);
            x.next();
            is("next", x.account(9), 6);
        });
        test("a call that is refused or fails is no change", () -> {
            MonkMarbles x = with(3, 3);
            fails("pit", ARGUMENT, () -> x.pit(0));
            fails("pit", REFUSED, () -> run(x, "p30;p30"));
            fails("digit", REFUSED, () -> x.digit(1, 7));
            fails("scoop", REFUSED, () -> x.scoop(0, 4, 0));
            fails("play", MISSING, x::play);
            fails("next", REFUSED, x::next);
            fails("run", ARGUMENT, x::run);
            is("changes", x.account(9), 2);
            is("undo", x.undo(), 1);
            is("line", line(x), "3:3 =3");
        });
        test("restore forgets all changes", () -> {
            MonkMarbles x = with(1, 2);
            x.save();
            x.pit(3);
            x.restore();
            is("changes", x.account(9), 0);
            stays("undo", STATE, () -> x, y -> y.undo());
        });
        test("the input, the line, the error position and the reason are not undone", () -> {
            MonkMarbles x = new MonkMarbles();
            spoil(x, 5);
            String before = besidesOf(x) + reasonOf(x);
            x.undo();
            is("pits", x.account(0), 0);
            is("besides", besidesOf(x) + reasonOf(x), before);
        });
        test("the input, the line, the error position and the reason are not saved", () -> {
            MonkMarbles x = new MonkMarbles();
            x.save();
            spoil(x, 3);
            String before = besidesOf(x) + reasonOf(x);
            x.restore();
            is("pits", x.account(0), 0);
            is("besides", besidesOf(x) + reasonOf(x), before);
        });
    }

    /** Makes a pit, and sets all that is neither undone nor saved. */
    private static void spoil(MonkMarbles x, int marbles) {
        x.pit(marbles);
        fails("digit", REFUSED, () -> x.digit(2, 7));
        fails("run", ARGUMENT, () -> run(x, "p1;x"));
        x.line();
        type(x, "p1");
    }

    private static void inDoubt() {
        test("to take more than a pit has, with nothing left in it, is refused for the reason 2", () -> {
            staysRefused("2 of 1", 2, 1, () -> with(1), x -> x.scoop(0, 2, 0));
            staysRefused("6 of 5, whose digit is 0", 2, 5, () -> with(5), x -> x.scoop(0, 6, 0));
            staysRefused("2 of 1 by a text", 2, 1, () -> with(1), x -> run(x, "s0-2"));
        });
        test("of two scoops that split a pit alike both may be made", () -> {
            is("pits", with(4).scoop(0, 1, 1), 2);
            is("pits of the other", with(4).scoop(0, 1, 2), 2);
            MonkMarbles x = withOnly(1, 4);
            x.pit(4);
            is("scoops", x.scoops(), 2);
        });
        test("a digit that is set within a game counts at once", () -> {
            MonkMarbles x = with(3);
            x.scoop(0, 1, 2);
            x.digit(2, 0);
            refused(x, "a scoop that it forbids", 3, 0, () -> x.scoop(0, 2, 0));
            is("scoops", x.scoops(), 1);
            is("sum", x.sum(), 0);
            x.digit(2, 1);
            is("scoops again", x.scoops(), 2);
            is("a scoop that it lets", x.scoop(0, 2, 0), 0);
        });
        test("a pit that is made within a game counts at once", () -> {
            MonkMarbles x = with(1);
            x.scoop(0, 1, 0);
            x.pit(2);
            is("scoops", x.scoops(), 2);
            is("sum", x.sum(), 2);
            refused(x, "next", 5, 2, x::next);
            is("a scoop of it", x.scoop(0, 2, 0), 0);
            is("scoops of this game", x.account(6), 2);
            is("the winner", x.next(), 1);
        });
        test("without pits a game is over", () -> {
            is("at first", new MonkMarbles().next(), -1);
            MonkMarbles x = with(2);
            x.scoop(0, 2, 0);
            is("behind the last scoop", x.next(), 0);
        });
    }

    public static void main(String[] args) {
        pits();
        digits();
        scoops();
        values();
        winning();
        games();
        undo();
        inDoubt();
        end();
    }
}
