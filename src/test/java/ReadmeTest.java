import java.io.IOException;
import java.nio.file.Files;
import java.nio.file.Path;
import java.util.function.Supplier;

/** Makes the calls of the examples in README.md, in their order, and looks whether README.md tells their answers. */
public final class ReadmeTest extends Checks {
    private static final MonkMarbles garden = new MonkMarbles();
    private static String readme;
    private static int read;

    /** Looks for a row in README.md behind those looked for so far, so that the rows stand in the order of the calls. */
    private static void find(String row) {
        int at = readme.indexOf(row, read);
        is("README.md has '" + row + "' in its place", at >= 0, true);
        read = at >= 0 ? at + row.length() : read;
    }

    private static void row(String call, String answer, Supplier<Object> made) {
        find(call + "; // " + answer);
        is(call, String.valueOf(made.get()), answer);
    }

    private static void game() {
        row("garden.pit(5)", "0", () -> garden.pit(5));
        row("garden.pit(3)", "1", () -> garden.pit(3));
        row("garden.pitOf(0, 1)", "4", () -> garden.pitOf(0, 1));
        row("garden.sum()", "7", garden::sum);
        row("garden.scoops()", "10", garden::scoops);
        row("garden.wins(false)", "true", () -> garden.wins(false));
        row("garden.wins(true)", "true", () -> garden.wins(true));
        row("garden.told(0)", "0", () -> garden.told(0));
        row("garden.told(1)", "2", () -> garden.told(1));
        row("garden.told(2)", "1", () -> garden.told(2));
        row("garden.play()", "3", garden::play);
        is("the pits behind it", pits(), "1 3 2");
        row("garden.turn()", "1", garden::turn);
        row("garden.scoop(0, 1, 0)", "2", () -> garden.scoop(0, 1, 0));
    }

    private static String pits() {
        StringBuilder out = new StringBuilder();
        for (int pit = 0; pit < garden.account(0); pit++) {
            out.append(pit == 0 ? "" : " ").append(garden.pitOf(pit, 0));
        }
        return out.toString();
    }

    private static void refusal() {
        find("garden.scoop(0, 3, 0);");
        fails("garden.scoop(0, 3, 0)", REFUSED, () -> garden.scoop(0, 3, 0));
        row("garden.refusal(false)", "3", () -> garden.refusal(false));
        row("garden.refusal(true)", "0", () -> garden.refusal(true));
    }

    private static void text() {
        find("\"c3=1;s0-3\".toCharArray()");
        type(garden, "c3=1;s0-3");
        row("garden.run()", "2", garden::run);
        row("garden.account(1)", "2", () -> garden.account(1));
    }

    private static void undoAndSnapshot() {
        row("garden.undo()", "4", garden::undo);
        row("garden.save()", "2", garden::save);
        row("garden.play()", "2", garden::play);
        row("garden.restore()", "2", garden::restore);
        row("garden.account(9)", "0", () -> garden.account(9));
    }

    /** Each call of the face stands in the table of all calls. */
    private static void table() {
        for (var method : MonkMarbles.class.getDeclaredMethods()) {
            if (java.lang.reflect.Modifier.isPublic(method.getModifiers())) {
                is("the table has " + method.getName(), readme.indexOf("`" + method.getName() + "`", read) >= 0, true);
            }
        }
    }

    public static void main(String[] args) throws IOException {
        readme = Files.readString(Path.of("README.md")).replaceAll("\\s+", " ");
        test("a game", ReadmeTest::game);
        test("lines", () -> row("line.toString()", "3:3 2:2 =1", () -> line(garden)));
        test("what is refused", ReadmeTest::refusal);
        test("texts of orders", ReadmeTest::text);
        test("undo and snapshot", ReadmeTest::undoAndSnapshot);
        test("all calls", ReadmeTest::table);
        end();
    }
}
