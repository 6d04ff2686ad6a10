import java.util.ArrayList;
import java.util.Arrays;
import java.util.HashMap;
import java.util.HashSet;
import java.util.List;
import java.util.Map;
import java.util.NoSuchElementException;
import java.util.Objects;
import java.util.Random;
import java.util.Set;
import java.util.regex.Matcher;
import java.util.regex.Pattern;

/**
 * Makes random calls on the class and on a model of the document that is written for plainness alone, and compares all
 * answers. The seeds are fixed, so each run of the test makes the same calls.
 */
public final class ModelTest {
    private static final int OBJECTS = 600;
    private static final int CALLS = 512;

    /** What changes can change, copied as a whole. */
    private static final class State {
        List<Integer> pits = new ArrayList<>();
        int[] digits = {0, 7, 7, 0, 0, 0, 0};
        int turn;
        int[][] monks = new int[2][4];
        int came;
        int lay;
        int games;

        State copy() {
            State other = new State();
            other.pits = new ArrayList<>(pits);
            other.digits = digits.clone();
            other.turn = turn;
            other.monks = new int[][] {monks[0].clone(), monks[1].clone()};
            other.came = came;
            other.lay = lay;
            other.games = games;
            return other;
        }

        int total() {
            return pits.stream().mapToInt(Integer::intValue).sum();
        }
    }

    private static final class Model {
        private static final Pattern TEXT = Pattern.compile(
                "(p[0-9]{1,2}|c[0-9]=[0-9]|s[0-9]{1,2}-[0-9](/[0-9]{1,2})?|n)"
                + "(;(p[0-9]{1,2}|c[0-9]=[0-9]|s[0-9]{1,2}-[0-9](/[0-9]{1,2})?|n))*");

        State now = new State();
        State saved;
        List<State> before = new ArrayList<>();
        String line = "";
        StringBuilder input = new StringBuilder();
        int error = -1;
        int[] refusal;

        private UnsupportedOperationException refuse(int reason, int detail) {
            refusal = new int[] {reason, detail};
            return new UnsupportedOperationException();
        }

        private void changed(State old) {
            before.add(old);
            if (before.size() > 8) {
                before.remove(0);
            }
        }

        /** The scoops of a pit: each is {taken, left, others}. */
        List<int[]> scoopsOf(int marbles) {
            List<int[]> all = new ArrayList<>();
            for (int take = 1; take <= 6; take++) {
                int digit = now.digits[take];
                if (marbles == take && (digit & 1) != 0) {
                    all.add(new int[] {take, 0, 0});
                }
                for (int left = 1; left < marbles - take; left++) {
                    if ((digit & 4) != 0) {
                        all.add(new int[] {take, left, marbles - take - left});
                    }
                }
                if (marbles > take && (digit & 2) != 0) {
                    all.add(new int[] {take, marbles - take, 0});
                }
            }
            return all;
        }

        List<int[]> allScoops() {
            List<int[]> all = new ArrayList<>();
            for (int pit = 0; pit < now.pits.size(); pit++) {
                for (int[] one : scoopsOf(now.pits.get(pit))) {
                    all.add(new int[] {pit, one[0], one[1], one[2]});
                }
            }
            return all;
        }

        private int[] digitsOfValues;
        private List<Set<Integer>> listsOfValues;
        private int[] knownValues;

        private void reckon() {
            if (digitsOfValues != null && Arrays.equals(digitsOfValues, now.digits)) {
                return;
            }
            digitsOfValues = now.digits.clone();
            listsOfValues = new ArrayList<>();
            knownValues = new int[31];
            for (int marbles = 0; marbles <= 30; marbles++) {
                Set<Integer> list = new HashSet<>();
                for (int[] one : scoopsOf(marbles)) {
                    list.add(knownValues[one[1]] ^ knownValues[one[2]]);
                }
                listsOfValues.add(list);
                while (list.contains(knownValues[marbles])) {
                    knownValues[marbles]++;
                }
            }
        }

        int[] values() {
            reckon();
            return knownValues;
        }

        Set<Integer> listOf(int marbles) {
            reckon();
            return listsOfValues.get(marbles);
        }

        int sum() {
            int sum = 0;
            for (int marbles : now.pits) {
                sum ^= values()[marbles];
            }
            return sum;
        }

        int[] toldScoop() {
            int[] value = values();
            for (int[] one : allScoops()) {
                int marbles = now.pits.get(one[0]);
                if ((sum() ^ value[marbles] ^ value[one[2]] ^ value[one[3]]) == 0) {
                    return one;
                }
            }
            throw new NoSuchElementException();
        }

        private boolean trying(List<Integer> pits, Map<List<Integer>, Boolean> known) {
            List<Integer> key = new ArrayList<>(pits);
            key.sort(null);
            Boolean end = known.get(key);
            if (end != null) {
                return end;
            }
            boolean wins = false;
            for (int pit = 0; pit < key.size(); pit++) {
                for (int[] one : scoopsOf(key.get(pit))) {
                    List<Integer> then = new ArrayList<>(key);
                    then.remove(pit);
                    if (one[1] > 0) {
                        then.add(one[1]);
                    }
                    if (one[2] > 0) {
                        then.add(one[2]);
                    }
                    wins |= !trying(then, known);
                }
            }
            known.put(key, wins);
            return wins;
        }

        boolean wins(boolean again) {
            if (again && now.total() > 10) {
                throw new IllegalStateException();
            }
            return again ? trying(now.pits, new HashMap<>()) : sum() != 0;
        }

        int doPit(int marbles) {
            if (marbles < 1 || marbles > 30) {
                throw new IllegalArgumentException();
            }
            if (now.total() + marbles > 40) {
                throw refuse(1, now.total() + marbles);
            }
            now.pits.add(marbles);
            now.came += marbles;
            return now.pits.size() - 1;
        }

        int doDigit(int take, int digit) {
            if (take < 1 || take > 6 || digit < 0 || digit > 7) {
                throw new IllegalArgumentException();
            }
            int old = now.digits[take];
            if (old == digit) {
                throw refuse(4, digit);
            }
            now.digits[take] = digit;
            return old;
        }

        int doScoop(int pit, int take, int left) {
            if (pit < 0 || pit >= now.pits.size()) {
                throw new IndexOutOfBoundsException();
            }
            int marbles = now.pits.get(pit);
            if (take < 1 || take > 6 || left < 0 || left == 0 && marbles > take) {
                throw new IllegalArgumentException();
            }
            if ((long) take + left > marbles) {
                throw refuse(2, marbles);
            }
            for (int[] one : scoopsOf(marbles)) {
                if (one[0] == take && one[1] == left) {
                    if (left > 0) {
                        now.pits.set(pit, left);
                    } else {
                        now.pits.remove(pit);
                    }
                    if (one[2] > 0) {
                        now.pits.add(one[2]);
                    }
                    now.monks[now.turn][0]++;
                    now.monks[now.turn][1] += take;
                    now.monks[now.turn][3]++;
                    now.turn = 1 - now.turn;
                    return now.pits.size();
                }
            }
            throw refuse(3, now.digits[take]);
        }

        int doNext() {
            if (!allScoops().isEmpty()) {
                throw refuse(5, allScoops().size());
            }
            int winner = now.monks[0][3] + now.monks[1][3] == 0 ? -1 : 1 - now.turn;
            if (winner >= 0) {
                now.monks[winner][2]++;
            }
            now.monks[0][3] = 0;
            now.monks[1][3] = 0;
            now.lay += now.total();
            now.pits.clear();
            now.games++;
            return winner;
        }

        private static int errorOf(String text) {
            for (int length = 1; length <= text.length(); length++) {
                Matcher matcher = TEXT.matcher(text.substring(0, length));
                if (!matcher.matches() && !matcher.hitEnd()) {
                    return length - 1;
                }
            }
            return TEXT.matcher(text).matches() ? -1 : text.length();
        }

        int run() {
            String text = input.toString();
            input.setLength(0);
            error = errorOf(text);
            if (error >= 0) {
                throw new IllegalArgumentException();
            }
            State old = now.copy();
            try {
                for (String order : text.split(";")) {
                    carryOut(order);
                }
            } catch (UnsupportedOperationException refused) {
                now = old;
                throw refused;
            } catch (RuntimeException other) {
                now = old;
                throw new IllegalArgumentException();
            }
            changed(old);
            return text.split(";").length;
        }

        private void carryOut(String order) {
            String[] parts = order.substring(1).split("[=/-]");
            if (order.charAt(0) == 'p') {
                doPit(Integer.parseInt(parts[0]));
            } else if (order.charAt(0) == 'c') {
                doDigit(Integer.parseInt(parts[0]), Integer.parseInt(parts[1]));
            } else if (order.charAt(0) == 'n') {
                doNext();
            } else {
                int pit = Integer.parseInt(parts[0]);
                int take = Integer.parseInt(parts[1]);
                int left = parts.length > 2 ? Integer.parseInt(parts[2])
                        : pit < now.pits.size() ? Math.max(0, now.pits.get(pit) - take) : 0;
                doScoop(pit, take, left);
            }
        }

        int ranked(int place) {
            List<Integer> all = new ArrayList<>();
            for (int pit = 0; pit < now.pits.size(); pit++) {
                all.add(pit);
            }
            all.sort((a, b) -> {
                int one = now.pits.get(a);
                int other = now.pits.get(b);
                int byValue = Integer.compare(values()[other], values()[one]);
                return byValue != 0 ? byValue : one != other ? Integer.compare(one, other) : Integer.compare(a, b);
            });
            if (place < 0 || place >= all.size()) {
                throw new NoSuchElementException();
            }
            return all.get(place);
        }

        int period(int from) {
            if (from < 0 || from > 29) {
                throw new IllegalArgumentException();
            }
            for (int length = 1; from + length <= 30; length++) {
                boolean is = true;
                for (int marbles = from; marbles + length <= 30; marbles++) {
                    is &= values()[marbles] == values()[marbles + length];
                }
                if (is) {
                    return length;
                }
            }
            throw new NoSuchElementException();
        }

        int least(int value) {
            for (int marbles = 0; marbles <= 30; marbles++) {
                if (values()[marbles] == value) {
                    return marbles;
                }
            }
            throw new NoSuchElementException();
        }

        int account(int what) {
            int[] all = {now.pits.size(), now.total(), now.came, now.monks[0][1] + now.monks[1][1], now.lay, now.games,
                now.monks[0][3] + now.monks[1][3], Arrays.stream(values()).max().getAsInt(), input.length(),
                before.size()};
            if (what < 0 || what >= all.length) {
                throw new IllegalArgumentException();
            }
            return all[what];
        }

        String lineOfPits() {
            StringBuilder out = new StringBuilder();
            for (int marbles : now.pits) {
                out.append(marbles + ":" + values()[marbles] + " ");
            }
            return out.append("=" + sum()).toString();
        }

        Object change(String name, int a, int b, int c) {
            State old = now.copy();
            Object answer;
            switch (name) {
                case "pit":
                    answer = doPit(a);
                    break;
                case "digit":
                    answer = doDigit(a, b);
                    break;
                case "scoop":
                    answer = doScoop(a, b, c);
                    break;
                case "play":
                    int[] told = toldScoop();
                    answer = doScoop(told[0], told[1], told[2]);
                    break;
                default:
                    answer = doNext();
                    break;
            }
            changed(old);
            return answer;
        }

        Object part(int[] row, int what) {
            if (what < 0 || what > 2) {
                throw new IllegalArgumentException();
            }
            return row[what];
        }

        Object call(String name, int a, int b, int c) {
            switch (name) {
                case "pit":
                case "digit":
                case "scoop":
                case "play":
                case "next":
                    return change(name, a, b, c);
                case "digitOf":
                    if (a < 1 || a > 6) {
                        throw new IllegalArgumentException();
                    }
                    return now.digits[a];
                case "pitOf":
                    if (a < 0 || a >= now.pits.size()) {
                        throw new IndexOutOfBoundsException();
                    }
                    if (b < 0 || b > 3) {
                        throw new IllegalArgumentException();
                    }
                    int marbles = now.pits.get(a);
                    return b == 0 ? marbles : b == 1 ? values()[marbles] : b == 2 ? scoopsOf(marbles).size()
                            : sum() ^ values()[marbles];
                case "ranked":
                    return ranked(a);
                case "scoops":
                    return allScoops().size();
                case "scoopAt":
                    if (a < 0 || a >= allScoops().size()) {
                        throw new NoSuchElementException();
                    }
                    return part(allScoops().get(a), b);
                case "told":
                    return part(toldScoop(), a);
                case "wins":
                    return wins(a > 0);
                case "turn":
                    return now.turn;
                case "monkOf":
                    if (a < 0 || a > 1) {
                        throw new IndexOutOfBoundsException();
                    }
                    if (b < 0 || b > 3) {
                        throw new IllegalArgumentException();
                    }
                    return now.monks[a][b];
                default:
                    return more(name, a, b);
            }
        }

        private Object more(String name, int a, int b) {
            switch (name) {
                case "value":
                case "lists":
                case "listed":
                case "valuesLine":
                    if (a < 0 || a > 30) {
                        throw new IllegalArgumentException();
                    }
                    if (name.equals("value")) {
                        return values()[a];
                    }
                    if (!name.equals("valuesLine")) {
                        return name.equals("lists") ? (Object) listOf(a).contains(b) : (Object) listOf(a).size();
                    }
                    line = Arrays.toString(Arrays.copyOf(values(), a + 1)).replaceAll("[^0-9,]", "");
                    return line.length();
                case "sum":
                    return sum();
                case "period":
                    return period(a);
                case "least":
                    return least(a);
                case "line":
                    line = lineOfPits();
                    return line.length();
                case "character":
                    if (a < 0 || a >= line.length()) {
                        throw new IndexOutOfBoundsException();
                    }
                    return line.charAt(a);
                case "append":
                    if (input.length() == 60) {
                        throw new IllegalStateException();
                    }
                    return input.append((char) a).length();
                case "run":
                    return run();
                case "errorPosition":
                    return error;
                case "refusal":
                    if (refusal == null) {
                        throw new NoSuchElementException();
                    }
                    return refusal[a > 0 ? 1 : 0];
                case "account":
                    return account(a);
                case "isWell":
                    return true;
                default:
                    return last(name, a);
            }
        }

        private Object last(String name, int a) {
            switch (name) {
                case "meanMarbles":
                    if (now.pits.isEmpty()) {
                        throw new ArithmeticException();
                    }
                    return (double) now.total() / (double) now.pits.size();
                case "share":
                    if (a < 0 || a > 1) {
                        throw new IndexOutOfBoundsException();
                    }
                    int all = now.monks[0][0] + now.monks[1][0];
                    if (all == 0) {
                        throw new ArithmeticException();
                    }
                    return (float) now.monks[a][0] / (float) all;
                case "undo":
                    if (before.isEmpty()) {
                        throw new IllegalStateException();
                    }
                    now = before.remove(before.size() - 1);
                    return before.size();
                case "save":
                    saved = now.copy();
                    return now.pits.size();
                default:
                    if (saved == null) {
                        throw new IllegalStateException();
                    }
                    now = saved.copy();
                    before.clear();
                    return now.pits.size();
            }
        }
    }

    private static Object call(MonkMarbles x, String name, int a, int b, int c) {
        switch (name) {
            case "pit": return x.pit(a);
            case "digit": return x.digit(a, b);
            case "digitOf": return x.digitOf(a);
            case "pitOf": return x.pitOf(a, b);
            case "ranked": return x.ranked(a);
            case "scoop": return x.scoop(a, b, c);
            case "play": return x.play();
            case "scoops": return x.scoops();
            case "scoopAt": return x.scoopAt(a, b);
            case "told": return x.told(a);
            case "wins": return x.wins(a > 0);
            case "next": return x.next();
            case "turn": return x.turn();
            case "monkOf": return x.monkOf(a, b);
            case "value": return x.value(a, b > 0);
            case "lists": return x.lists(a, b);
            case "listed": return x.listed(a);
            case "sum": return x.sum();
            case "period": return x.period(a);
            case "least": return x.least(a);
            case "line": return x.line();
            case "valuesLine": return x.valuesLine(a);
            case "character": return x.character(a);
            case "append": return x.append((char) a);
            case "run": return x.run();
            case "errorPosition": return x.errorPosition();
            case "refusal": return x.refusal(a > 0);
            case "account": return x.account(a);
            case "isWell": return x.isWell();
            case "meanMarbles": return x.meanMarbles();
            case "share": return x.share(a);
            case "undo": return x.undo();
            case "save": return x.save();
            default: return x.restore();
        }
    }

    private static final String[] NAMES = {
        "pit", "digit", "digitOf", "pitOf", "ranked", "scoop", "play", "scoops", "scoopAt", "told", "wins", "next",
        "turn", "monkOf", "value", "lists", "listed", "sum", "period", "least", "line", "valuesLine", "character",
        "append", "run", "errorPosition", "refusal", "account", "isWell", "meanMarbles", "share", "undo", "save",
        "restore",
    };
    private static final String[] CHANGES = {"pit", "pit", "digit", "scoop", "scoop", "scoop", "play", "play", "next"};
    private static final int[] EDGES = {Integer.MIN_VALUE, -1, 29, 30, 31, 60, Integer.MAX_VALUE};

    private static final class Player {
        final Random random;
        final MonkMarbles x = new MonkMarbles();
        final Model model = new Model();
        final List<String> story = new ArrayList<>();
        int calls;
        boolean isRight = true;

        Player(long seed) {
            random = new Random(seed);
        }

        private int number(int below) {
            return random.nextInt(25) == 0 ? EDGES[random.nextInt(EDGES.length)] : random.nextInt(below + 1);
        }

        private static Object outcome(java.util.function.Supplier<Object> call) {
            try {
                return call.get();
            } catch (RuntimeException thrown) {
                return "throws." + thrown.getClass().getSimpleName();
            }
        }

        void both(String name, int a, int b, int c) {
            if (!isRight || calls == CALLS) {
                return;
            }
            calls++;
            Object due = outcome(() -> model.call(name, a, b, c));
            Object got = outcome(() -> call(x, name, a, b, c));
            story.add(name + "(" + a + ", " + b + ", " + c + ") -> " + got);
            if (!Objects.equals(due, got)) {
                isRight = false;
                System.out.println(String.join("\n", story) + "\nbut due is " + due);
            }
        }

        private String order() {
            int pits = Math.max(1, model.now.pits.size());
            switch (random.nextInt(8)) {
                case 0:
                case 1:
                    return "p" + random.nextInt(random.nextInt(6) == 0 ? 100 : 8);
                case 2:
                    return "c" + random.nextInt(8) + "=" + random.nextInt(9);
                case 3:
                    return "n";
                case 4:
                    return "s" + random.nextInt(pits + 1) + "-" + random.nextInt(5);
                default:
                    return "s" + random.nextInt(pits) + "-" + (1 + random.nextInt(4)) + "/" + random.nextInt(8);
            }
        }

        /** An order that can be carried out as the pits are now, so that longer texts can succeed too. */
        private String rightOrder() {
            List<int[]> all = model.allScoops();
            if (all.isEmpty() || random.nextInt(4) == 0) {
                return random.nextBoolean() && all.isEmpty() ? "n" : "p0" + (1 + random.nextInt(6));
            }
            int[] one = all.get(random.nextInt(all.size()));
            return "s" + one[0] + "-" + one[1] + (one[3] == 0 && random.nextBoolean() ? "" : "/" + one[2]);
        }

        private void text() {
            StringBuilder text = new StringBuilder(random.nextInt(3) == 0 ? order() : rightOrder());
            for (int more = random.nextInt(5); more > 0; more--) {
                text.append(';').append(random.nextInt(3) == 0 ? rightOrder() : order());
            }
            if (random.nextInt(3) == 0) {
                String signs = "pcsn;=-/0123456789 x";
                char sign = random.nextInt(9) == 0 ? (char) random.nextInt(65536) : signs.charAt(random.nextInt(20));
                text.setCharAt(random.nextInt(text.length()), sign);
            }
            for (int at = 0; at < text.length(); at++) {
                both("append", text.charAt(at), 0, 0);
            }
            both("run", 0, 0, 0);
            both("errorPosition", 0, 0, 0);
        }

        private void change() {
            String name = CHANGES[random.nextInt(CHANGES.length)];
            List<int[]> all = model.allScoops();
            if (name.equals("pit")) {
                both(name, number(random.nextInt(3) == 0 ? 30 : 6), 0, 0);
            } else if (name.equals("digit")) {
                both(name, 1 + number(6), number(8), 0);
            } else if (name.equals("scoop") && !all.isEmpty() && random.nextInt(3) > 0) {
                int[] one = all.get(random.nextInt(all.size()));
                both(name, one[0], one[1], one[2]);
            } else {
                both(name, number(4), number(7), number(9));
            }
            both("refusal", 0, 0, 0);
            both("refusal", 1, 0, 0);
        }

        /** Writes the line and reads it, and asks a few more. */
        private void look() {
            both("line", 0, 0, 0);
            for (int at = 0; at <= Math.min(12, model.line.length()); at++) {
                both("character", at, 0, 0);
            }
            both("wins", 1, 0, 0);
            both("isWell", 0, 0, 0);
            both("told", random.nextInt(3), 0, 0);
        }

        void play() {
            while (isRight && calls < CALLS) {
                int way = random.nextInt(10);
                if (way < 3) {
                    change();
                } else if (way == 3) {
                    text();
                } else if (way == 4) {
                    look();
                } else {
                    String name = NAMES[random.nextInt(NAMES.length)];
                    both(name, number(name.equals("append") ? 255 : 31), number(10), number(9));
                    both("account", random.nextInt(10), 0, 0);
                    both("monkOf", random.nextInt(2), random.nextInt(4), 0);
                }
            }
        }
    }

    public static void main(String[] args) {
        int wrong = 0;
        for (int seed = 0; seed < OBJECTS && wrong < 3; seed++) {
            Player player = new Player(seed);
            player.play();
            wrong += player.isRight ? 0 : 1;
        }
        System.out.println(wrong == 0 ? "the class answers as the model does" : wrong + " runs differ");
        if (wrong != 0) {
            System.exit(1);
        }
    }
}
