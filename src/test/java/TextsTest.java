/** Tests the edges of the promises 22 to 28, and of the term 'Texts': lines, texts and reasons. */
public final class TextsTest extends Checks {
    private static final String SIXTY = "n;n;n;n;n;n;n;n;n;n;n;n;n;n;n;n;n;n;n;n;n;n;n;n;n;n;n;c1=0;n";

    private static MonkMarbles five() {
        return with(5);
    }

    private static void errorAt(int position, String... texts) {
        for (String text : texts) {
            staysBehindRun(text, ARGUMENT, position, TextsTest::five);
        }
    }

    /** Texts that are well written, but of which an order cannot be carried out for its numbers. */
    private static void wrongNumbers(String... texts) {
        for (String text : texts) {
            staysBehindRun(text, ARGUMENT, -1, TextsTest::five);
        }
    }

    private static void refusedText(String text, int reason, int detail) {
        MonkMarbles x = five();
        String before = stateOf(x);
        refused(x, "run of " + text, reason, detail, () -> run(x, text));
        is("error position of " + text, x.errorPosition(), -1);
        is("input behind " + text, x.account(8), 0);
        is("all behind " + text, stateOf(x), before);
    }

    private static void lines() {
        test("22: without pits =0 alone", () -> {
            MonkMarbles x = new MonkMarbles();
            is("length", x.line(), 2);
            is("line", written(x), "=0");
        });
        test("22: one pit", () -> {
            is("of 1", line(with(1)), "1:1 =1");
            is("of 30", line(with(30)), "30:7 =7");
        });
        test("22: a blank between two, and before the sum", () -> {
            is("line", line(with(3, 5)), "3:3 5:4 =7");
            is("length", with(3, 5).line(), 10);
        });
        test("22: a sum of 0 with pits", () -> is("line", line(with(3, 3)), "3:3 3:3 =0"));
        test("22: values and sums of two digits", () -> {
            MonkMarbles x = withDigits(7, 7, 7, 7, 7, 7);
            x.pit(29);
            x.pit(9);
            is("line", line(x), "29:16 9:9 =25");
        });
        test("22: the longest line, of forty pits", () -> {
            MonkMarbles x = new MonkMarbles();
            StringBuilder due = new StringBuilder();
            for (int pit = 0; pit < 40; pit++) {
                x.pit(1);
                due.append("1:1 ");
            }
            is("length", x.line(), 162);
            is("line", written(x), due.append("=0").toString());
        });
        test("22: it stands in place of the line before, longer or shorter", () -> {
            MonkMarbles x = with(5);
            x.valuesLine(30);
            x.line();
            is("shorter", written(x), "5:4 =4");
            x.valuesLine(0);
            is("shorter again", written(x), "0");
            x.line();
            is("longer", written(x), "5:4 =4");
        });
        test("22: the line is that of the pits as it was written", () -> {
            MonkMarbles x = with(5);
            x.line();
            x.scoop(0, 2, 1);
            is("line", written(x), "5:4 =4");
        });
        test("23: the marbles are out of range", () -> {
            for (int marbles : new int[] {-1, 31, 32, LEAST, MOST}) {
                stays("valuesLine(" + marbles + ")", ARGUMENT, TextsTest::withLine, x -> x.valuesLine(marbles));
            }
        });
        test("23: 0 and 30 are the ends of the range", () -> {
            MonkMarbles x = new MonkMarbles();
            is("length of 0", x.valuesLine(0), 1);
            is("line of 0", written(x), "0");
            is("length of 1", x.valuesLine(1), 3);
            is("line of 1", written(x), "0,1");
            is("length of 30", x.valuesLine(30), 61);
            is("line of 30", written(x), "0,1,2,3,1,4,3,2,1,4,2,6,4,1,2,7,1,4,3,2,1,4,6,7,4,1,2,8,5,4,7");
        });
        test("23: values of two digits", () -> {
            MonkMarbles x = withDigits(7, 7, 7, 7, 7, 7);
            x.valuesLine(30);
            is("line", written(x),
                    "0,1,2,3,4,5,6,7,8,9,3,11,12,13,7,6,5,4,3,2,16,17,15,14,9,12,11,10,17,16,2");
        });
    }

    /** A garden with a line, so that a wrong change of it can be seen. */
    private static MonkMarbles withLine() {
        MonkMarbles x = with(3);
        x.line();
        return x;
    }

    private static void character() {
        test("24: the line is empty at first", () -> {
            for (int index : new int[] {0, 1, -1, LEAST, MOST}) {
                stays("character(" + index + ")", INDEX, MonkMarbles::new, x -> x.character(index));
            }
        });
        test("24: there is no such index", () -> {
            for (int index : new int[] {6, 7, 100, -1, LEAST, MOST}) {
                stays("character(" + index + ")", INDEX, TextsTest::withLine, x -> x.character(index));
            }
        });
        test("24: the first and the last index", () -> {
            MonkMarbles x = withLine();
            is("0", x.character(0), '3');
            is("5", x.character(5), '3');
            is("4", x.character(4), '=');
            is("3", x.character(3), ' ');
        });
        test("24: no index of a longer line before", () -> {
            MonkMarbles x = withLine();
            x.valuesLine(0);
            is("0", x.character(0), '0');
            fails("1", INDEX, () -> x.character(1));
        });
        test("24: a line that could not be written leaves the one before", () -> {
            MonkMarbles x = withLine();
            fails("valuesLine", ARGUMENT, () -> x.valuesLine(31));
            is("line", written(x), "3:3 =3");
        });
    }

    private static void append() {
        test("25: it returns how many characters there are then", () -> {
            MonkMarbles x = new MonkMarbles();
            is("first", x.append('n'), 1);
            is("second", x.append(';'), 2);
        });
        test("25: the input contains 60 characters", () -> {
            MonkMarbles x = new MonkMarbles();
            type(x, SIXTY.substring(0, 59));
            is("the sixtieth", x.append('n'), 60);
            stays("one more", STATE, () -> x, y -> y.append('n'));
            is("what was appended runs", x.run(), 29);
            is("input", x.account(8), 0);
        });
        test("25: the full input is empty again behind run, though that fails", () -> {
            MonkMarbles x = new MonkMarbles();
            for (int count = 1; count <= 60; count++) {
                is("append", x.append('x'), count);
            }
            fails("one more", STATE, () -> x.append('x'));
            fails("run", ARGUMENT, x::run);
            for (int count = 1; count <= 60; count++) {
                is("append again", x.append('n'), count);
            }
            fails("one more again", STATE, () -> x.append('x'));
        });
        test("25: any character is taken", () -> {
            for (char c : new char[] {0, ' ', 'x', 255, 256, 0x7fff, 0x8000, 0xffff}) {
                is("append of " + (int) c, new MonkMarbles().append(c), 1);
            }
        });
        test("25: other calls leave the input", () -> {
            MonkMarbles x = new MonkMarbles();
            type(x, "p");
            x.save();
            x.pit(3);
            x.undo();
            x.restore();
            x.line();
            x.next();
            is("the next", x.append('7'), 2);
            is("run", x.run(), 1);
            is("line", line(x), "7:2 =2");
        });
    }

    private static void orders() {
        test("texts: p and a number makes a pit", () -> {
            MonkMarbles x = new MonkMarbles();
            is("of one digit", run(x, "p1"), 1);
            is("of two", run(x, "p30"), 1);
            is("with a 0 before it", run(x, "p09"), 1);
            is("line", line(x), "1:1 30:7 9:4 =2");
        });
        test("texts: c sets a digit", () -> {
            MonkMarbles x = new MonkMarbles();
            is("the ends", run(x, "c1=0;c6=7"), 2);
            is("1", x.digitOf(1), 0);
            is("6", x.digitOf(6), 7);
        });
        test("texts: s without what is left leaves all others", () -> {
            MonkMarbles x = with(3, 5);
            is("run", run(x, "s1-2"), 1);
            is("line", line(x), "3:3 3:3 =0");
            is("run with 0 before the pit", run(x, "s00-1"), 1);
            is("line then", line(x), "2:2 3:3 =1");
        });
        test("texts: s without what is left takes a pit whole", () -> {
            MonkMarbles x = with(3, 2);
            is("run", run(x, "s1-2"), 1);
            is("line", line(x), "3:3 =3");
        });
        test("texts: s with what is left", () -> {
            MonkMarbles x = with(6, 2);
            is("a split", run(x, "s0-1/2"), 1);
            is("line", line(x), "2:2 2:2 3:3 =3");
            is("with two digits", run(x, "s02-1/02"), 1);
            is("line then", line(x), "2:2 2:2 2:2 =2");
            is("with 0", run(x, "s0-2/0"), 1);
            is("line at last", line(x), "2:2 2:2 =0");
        });
        test("texts: s leaves as many as two digits tell", () -> {
            MonkMarbles x = with(30);
            is("run", run(x, "s0-2/28"), 1);
            is("line", line(x), "28:5 =5");
        });
        test("texts: s for a pit of two digits", () -> {
            MonkMarbles x = new MonkMarbles();
            for (int pit = 0; pit < 11; pit++) {
                x.pit(pit == 10 ? 2 : 1);
            }
            is("run", run(x, "s10-1"), 1);
            is("marbles", x.pitOf(10, 0), 1);
        });
        test("texts: n begins the next game", () -> {
            MonkMarbles x = with(1);
            is("run", run(x, "s0-1;n;n"), 3);
            is("games", x.account(5), 2);
            is("won", x.monkOf(0, 2), 1);
        });
        test("texts: one order, and as many as the input holds", () -> {
            is("one", run(new MonkMarbles(), "n"), 1);
            is("of sixty characters", run(new MonkMarbles(), SIXTY), 29);
            MonkMarbles x = new MonkMarbles();
            is("thirty", run(x, "n;n;n;n;n;n;n;n;n;n;n;n;n;n;n;n;n;n;n;n;n;n;n;n;n;n;n;n;n;n"), 30);
            is("games", x.account(5), 30);
        });
        test("texts: a number of an order is not one of the order before", () -> {
            MonkMarbles x = with(9, 9);
            is("run", run(x, "s0-1/3;s1-2"), 2);
            is("line", line(x), "3:3 7:2 5:4 =5");
        });
    }

    private static void errors() {
        test("27: a text that ends too early", () -> {
            errorAt(0, "");
            errorAt(1, "p", "c", "s");
            errorAt(2, "c1", "s0", "n;");
            errorAt(3, "p1;", "c1=", "s00", "s0-");
            errorAt(4, "s00-", "p10;");
            errorAt(5, "s0-1/", "c1=7;", "p1;n;");
        });
        test("27: a first character that is no order", () -> errorAt(0, "x", ";", " n", "0", "o1", "q1", "b1=1", "d1=1",
                "r0-1", "t0-1", "m", "o", "P1", "C1=1", "S0-1", "N", ";n", "=", "-", "/", "\n", "1p"));
        test("27: a first character that is an order only by a turn of 256", () ->
            errorAt(0, (char) ('n' + 256) + "", (char) ('n' + 0x8000) + "", (char) 0 + "", (char) 0xffff + "n"));
        test("27: behind p a number of one or two digits", () -> {
            errorAt(1, "p;n", "p 5", "p-5", "p/", "p:", "pp", "p=", "p" + (char) 0x0665, "p" + (char) ('5' + 256));
            errorAt(2, "p5/", "p5:", "p5 ", "p5-", "p5p", "p5=", "p5n");
            errorAt(3, "p100", "p000", "p05/", "p05:", "p05 ", "p30n", "p055;n");
        });
        test("27: behind c a digit, =, and a digit, one each", () -> {
            errorAt(1, "c=1", "c/=1", "c:=1", "c;", "cc");
            errorAt(2, "c11", "c1<1", "c1>1", "c1-1", "c1;", "c01=1");
            errorAt(3, "c1=;", "c1=/", "c1=:", "c1==1", "c1=-1");
            errorAt(4, "c1=10", "c1=1/", "c1=1 ", "c1=1=", "c1=1n");
        });
        test("27: behind s a number of one or two digits, and -", () -> {
            errorAt(1, "s-1", "s/", "s:", "s;", "ss");
            errorAt(2, "s0,1", "s0.1", "s0/1", "s0=1", "s0;", "s0:1");
            errorAt(3, "s000-1", "s00/1", "s00;");
        });
        test("27: what s takes is one digit", () -> {
            errorAt(3, "s0--1", "s0-/1", "s0-:", "s0-;");
            errorAt(4, "s0-10", "s0-1-", "s0-1.1", "s0-10/1", "s0-1:", "s0-1=");
            errorAt(5, "s00-10");
        });
        test("27: what s leaves is a number of one or two digits", () -> {
            errorAt(5, "s0-1/;", "s0-1//", "s0-1/-1", "s0-1/:", "s0-1/ 1");
            errorAt(6, "s0-1/1/", "s0-1/1:", "s0-1/1-", "s00-1/;");
            errorAt(7, "s0-1/100", "s0-1/001", "s0-1/01 ");
        });
        test("27: n stands alone", () -> errorAt(1, "n1", "nn", "n ", "n=", "n:", "n<"));
        test("27: a semicolon between two orders, one only", () -> {
            errorAt(2, "n;;n", "n;;", "n; n");
            errorAt(1, "n:n", "n<n", "n,n");
            errorAt(3, "p1;;", "p1;x", "p1;1");
            errorAt(6, "p1;p1;", "p1;p1;;", "p1;n;nn");
        });
        test("27: an error behind a full input's last order", () -> {
            MonkMarbles x = new MonkMarbles();
            fails("thirty semicolons", ARGUMENT, () -> run(x, "n;n;n;n;n;n;n;n;n;n;n;n;n;n;n;n;n;n;n;n;n;n;n;n;n;n;n;n;n;n;"));
            is("position", x.errorPosition(), 60);
            MonkMarbles y = new MonkMarbles();
            fails("a wrong sixtieth", ARGUMENT, () -> run(y, SIXTY.substring(0, 59) + "x"));
            is("position of the sixtieth", y.errorPosition(), 59);
        });
        test("27: each single character", () -> {
            for (char c = 0; c < 300; c++) {
                if (c != 'n') {
                    int due = c == 'p' || c == 'c' || c == 's' ? 1 : 0;
                    errorAt(due, String.valueOf(c));
                }
            }
        });
        test("27: it is -1 before the first run", () -> {
            MonkMarbles x = new MonkMarbles();
            type(x, "x");
            is("position", x.errorPosition(), -1);
        });
        test("27: it is that of the latest call of run", () -> {
            MonkMarbles x = five();
            fails("an error", ARGUMENT, () -> run(x, "p1;x"));
            type(x, "p");
            is("before the next run", x.errorPosition(), 3);
            fails("another error", ARGUMENT, x::run);
            is("another", x.errorPosition(), 1);
            run(x, "p1");
            is("behind a text without one", x.errorPosition(), -1);
        });
        test("27: it is -1 again behind a text that is refused or fails, but has no error", () -> {
            MonkMarbles x = five();
            fails("an error", ARGUMENT, () -> run(x, "x"));
            fails("a refusal", REFUSED, () -> run(x, "c1=7"));
            is("behind the refusal", x.errorPosition(), -1);
            fails("an error", ARGUMENT, () -> run(x, "x"));
            fails("a wrong number", ARGUMENT, () -> run(x, "p0"));
            is("behind the wrong number", x.errorPosition(), -1);
        });
    }

    private static void runs() {
        test("26: a text with an error carries out nothing, and refuses nothing", () -> {
            staysBehindRun("p1;c3=1;s0-1;x", ARGUMENT, 13, TextsTest::five);
            staysBehindRun("p30;p30;", ARGUMENT, 8, TextsTest::five);
            staysBehindRun("p0;x", ARGUMENT, 3, TextsTest::five);
            MonkMarbles x = five();
            fails("c1=7;x", ARGUMENT, () -> run(x, "c1=7;x"));
            is("reason", reasonOf(x), ", no reason");
        });
        test("26: the input is empty, also behind each exception", () -> {
            MonkMarbles x = five();
            run(x, "p1");
            is("behind a text", x.account(8), 0);
            fails("an error", ARGUMENT, () -> run(x, "p1;"));
            is("behind an error", x.account(8), 0);
            fails("a wrong number", ARGUMENT, () -> run(x, "p0"));
            is("behind a wrong number", x.account(8), 0);
            fails("a refusal", REFUSED, () -> run(x, "c1=7"));
            is("behind a refusal", x.account(8), 0);
            fails("nothing", ARGUMENT, x::run);
            is("position of nothing", x.errorPosition(), 0);
        });
        test("26: pit throws another exception", () -> {
            wrongNumbers("p0", "p00", "p31", "p99", "p40", "p41");
            is("but not for 30", run(five(), "p30"), 1);
        });
        test("26: digit throws another exception", () -> {
            wrongNumbers("c0=1", "c7=1", "c9=0", "c1=8", "c6=9", "c0=8");
            is("but not for the ends", run(five(), "c6=7;c1=0"), 2);
        });
        test("26: scoop throws another exception for the pit", () -> {
            wrongNumbers("s1-1", "s1-1/1", "s99-1", "s1-0", "s99-9/99", "s40-1", "s41-1");
            staysBehindRun("s0-1", ARGUMENT, -1, MonkMarbles::new);
        });
        test("26: scoop throws another exception for what is taken", () ->
            wrongNumbers("s0-0", "s0-7", "s0-8", "s0-9", "s0-0/5", "s0-7/0", "s0-9/99", "s0-0/99"));
        test("26: scoop throws another exception for 0 left with others", () ->
            wrongNumbers("s0-1/0", "s0-2/00", "s0-3/0", "s0-4/0"));
        test("26: refused for reason 1", () -> {
            refusedText("p30;p6", 1, 41);
            refusedText("p30;p5;p1", 1, 41);
            refusedText("p30;p30", 1, 65);
            is("but not with 40 marbles", run(five(), "p30;p5"), 2);
        });
        test("26: refused for reason 2", () -> {
            refusedText("s0-6", 2, 5);
            refusedText("s0-6/0", 2, 5);
            refusedText("s0-1/5", 2, 5);
            refusedText("s0-2/99", 2, 5);
            refusedText("p1;s1-2", 2, 1);
            is("but not with so many", run(five(), "s0-1/4"), 1);
        });
        test("26: refused for reason 3", () -> {
            refusedText("s0-3", 3, 0);
            refusedText("s0-3/2", 3, 0);
            refusedText("c1=3;s0-1/2", 3, 3);
            refusedText("c1=5;s0-1", 3, 5);
            refusedText("c2=6;s0-1/2;s0-2", 3, 6);
        });
        test("26: refused for reason 4", () -> {
            refusedText("c1=7", 4, 7);
            refusedText("c6=0", 4, 0);
            refusedText("c1=0;c1=0", 4, 0);
        });
        test("26: refused for reason 5", () -> {
            refusedText("n", 5, 7);
            refusedText("s0-2;n", 5, 3);
            refusedText("s0-2/2;s0-1/1;n", 5, 2);
        });
        test("26: the first order that cannot be decides", () -> {
            wrongNumbers("p0;c1=7", "p1;s9-1;n", "c7=7;s0-6");
            refusedText("c1=7;p0", 4, 7);
            refusedText("p1;n;p31", 5, 8);
            refusedText("s0-6;c1=7;n", 2, 5);
            refusedText("c1=7;n", 4, 7);
        });
        test("26: nothing of a text is carried out if its last order cannot be", () -> {
            staysBehindRun("p3;s0-2;c3=1;s0-1/1;p0", ARGUMENT, -1, TextsTest::five);
            refusedText("p3;s0-2;c3=1;c1=0;c2=0;s1-3;c3=1", 4, 1);
            refusedText("c1=0;c2=0;n;p9;c1=7;n", 5, 8);
        });
        test("26: a text that cannot be leaves the changes before it", () -> {
            MonkMarbles x = with(5, 3);
            fails("a refusal", REFUSED, () -> run(x, "s0-2;p1;c1=7"));
            is("undo", x.undo(), 1);
            is("line", line(x), "5:4 =4");
            fails("a wrong number", ARGUMENT, () -> run(x, "p1;p0"));
            is("undo again", x.undo(), 0);
            is("line again", line(x), "=0");
        });
        test("26: the orders are carried out one after the other", () -> {
            MonkMarbles x = new MonkMarbles();
            is("orders", run(x, "p3;c3=1;s0-3;n;p2;s0-1;s0-1"), 7);
            is("pits", x.account(0), 0);
            is("games", x.account(5), 1);
            is("turn", x.turn(), 1);
            is("a digit that is set anew and back", run(x, "c3=0;c3=1"), 2);
            is("digit", x.digitOf(3), 1);
        });
        test("26: a text is one change", () -> {
            MonkMarbles x = five();
            run(x, "p3;c3=1;s0-2;s1-3");
            is("changes", x.account(9), 2);
            is("undo", x.undo(), 1);
            is("line", line(x), "5:4 =4");
            is("digit", x.digitOf(3), 0);
            is("turn", x.turn(), 0);
            is("scoops", x.account(6), 0);
        });
    }

    private static void refusals() {
        test("28: nothing was refused", () -> {
            stays("reason", MISSING, MonkMarbles::new, x -> x.refusal(false));
            stays("detail", MISSING, MonkMarbles::new, x -> x.refusal(true));
        });
        test("28: what throws another exception is not refused", () -> {
            MonkMarbles x = new MonkMarbles();
            fails("pit", ARGUMENT, () -> x.pit(31));
            fails("digit", ARGUMENT, () -> x.digit(7, 7));
            fails("scoop", INDEX, () -> x.scoop(0, 1, 1));
            fails("play", MISSING, x::play);
            fails("undo", STATE, x::undo);
            fails("restore", STATE, x::restore);
            fails("run", ARGUMENT, x::run);
            fails("run of a wrong number", ARGUMENT, () -> run(x, "p0"));
            fails("reason", MISSING, () -> x.refusal(false));
            fails("detail", MISSING, () -> x.refusal(true));
        });
        test("28: a detail of 0 is a detail", () -> {
            MonkMarbles x = new MonkMarbles();
            refused(x, "digit(6, 0)", 4, 0, () -> x.digit(6, 0));
        });
        test("28: it is that of the latest refusal", () -> {
            MonkMarbles x = with(30);
            refused(x, "1", 1, 60, () -> x.pit(30));
            refused(x, "2", 2, 30, () -> x.scoop(0, 1, 30));
            refused(x, "3", 3, 0, () -> x.scoop(0, 5, 25));
            refused(x, "4", 4, 7, () -> x.digit(2, 7));
            refused(x, "5", 5, 57, x::next);
            refused(x, "1 again, by a text", 1, 41, () -> run(x, "p11"));
        });
        test("28: it stays behind what is done, undone, restored or fails", () -> {
            MonkMarbles x = with(30);
            refused(x, "1", 1, 60, () -> x.pit(30));
            x.save();
            x.pit(3);
            x.scoop(1, 1, 2);
            run(x, "p1");
            x.undo();
            x.restore();
            fails("pit", ARGUMENT, () -> x.pit(0));
            fails("run", ARGUMENT, () -> run(x, "c1=7;x"));
            fails("run", ARGUMENT, () -> run(x, "p0;c1=7"));
            is("reason", x.refusal(false), 1);
            is("detail", x.refusal(true), 60);
        });
    }

    public static void main(String[] args) {
        lines();
        character();
        append();
        orders();
        errors();
        runs();
        refusals();
        end();
    }
}
