import java.util.NoSuchElementException;

/** Two monks who scoop marbles from pits by turns; the one who scoops last wins. */
public final class MonkMarbles {
    private static final int MOST_IN_PIT = 30;
    private static final int MOST_IN_ALL = 40;
    private static final int MOST_TAKEN = 6;
    private static final int MOST_TRIED = 10;
    private static final int MONKS = 2;
    private static final int NOBODY = -1;
    private static final int NONE = -1;

    /* What a digit is the sum of. */
    private static final int TAKES_ALL = 1;
    private static final int LETS_STAY = 2;
    private static final int SPLITS = 4;
    private static final int MOST_DIGIT = 7;

    /* What is counted for each monk, in the order of monkOf. */
    private static final int SCOOPS = 0;
    private static final int TAKEN = 1;
    private static final int WON = 2;
    private static final int SCOOPS_NOW = 3;
    private static final int TALLIES = 4;

    /* How the try of a change ends. */
    private static final int FINE = 0;
    private static final int NO_PLACE = 1;
    private static final int BAD_ARGUMENT = 2;
    private static final int REFUSED = 3;

    /* Why something is refused. */
    private static final int NOTHING_REFUSED = 0;
    private static final int TOO_MANY_MARBLES = 1;
    private static final int TOO_FEW_MARBLES = 2;
    private static final int DIGIT_FORBIDS = 3;
    private static final int ALREADY_SO = 4;
    private static final int NOT_OVER = 5;

    private final Garden now = new Garden();
    private final Garden spare = new Garden();
    private final Garden snapshot = new Garden();
    private final History history = new History();
    private final Values values = new Values();
    private final Trial trial = new Trial();
    private final Scoop found = new Scoop();
    private final Text text = new Text();
    private final StringBuilder written = new StringBuilder();
    private boolean hasSnapshot;
    private int errorAt = NONE;
    private int reason = NOTHING_REFUSED;
    private int detail;

    public MonkMarbles() {
        now.setDigit(1, MOST_DIGIT);
        now.setDigit(2, MOST_DIGIT);
        values.learn(now);
    }

    // Pits and digits

    public int pit(int marbles) throws IllegalArgumentException, UnsupportedOperationException {
        spare.become(now);
        int end = tryPit(marbles);
        if (end == BAD_ARGUMENT) {
            throw new IllegalArgumentException("a pit has 1 to 30 marbles");
        }
        if (end == REFUSED) {
            throw new UnsupportedOperationException("the pits would have too many marbles");
        }
        history.keep(spare);
        return now.pits() - 1;
    }

    public int digit(int take, int digit) throws IllegalArgumentException, UnsupportedOperationException {
        spare.become(now);
        int end = tryDigit(take, digit);
        if (end == BAD_ARGUMENT) {
            throw new IllegalArgumentException("no such number to take, or no such digit");
        }
        if (end == REFUSED) {
            throw new UnsupportedOperationException("the digit is so already");
        }
        history.keep(spare);
        values.learn(now);
        return spare.digitFor(take);
    }

    public int digitOf(int take) throws IllegalArgumentException {
        if (!isTake(take)) {
            throw new IllegalArgumentException("no such number to take");
        }
        return now.digitFor(take);
    }

    public int pitOf(int pit, int what) throws IndexOutOfBoundsException, IllegalArgumentException {
        if (!now.hasPit(pit)) {
            throw new IndexOutOfBoundsException("no such pit");
        }
        switch (what) {
            case 0:
                return now.marblesIn(pit);
            case 1:
                return valueOfPit(pit);
            case 2:
                return now.scoopsOf(pit);
            case 3:
                return sumOf(now) ^ valueOfPit(pit);
            default:
                throw new IllegalArgumentException("no such number of a pit");
        }
    }

    public int ranked(int place) throws NoSuchElementException {
        for (int pit = 0; pit < now.pits(); pit++) {
            if (rankOf(pit) == place) {
                return pit;
            }
        }
        throw new NoSuchElementException("no such place");
    }

    // Scoops and games

    public int scoop(int pit, int take, int left)
            throws IndexOutOfBoundsException, IllegalArgumentException, UnsupportedOperationException {
        spare.become(now);
        int end = tryScoop(pit, take, left);
        if (end == NO_PLACE) {
            throw new IndexOutOfBoundsException("no such pit");
        }
        if (end == BAD_ARGUMENT) {
            throw new IllegalArgumentException("no such scoop");
        }
        if (end == REFUSED) {
            throw new UnsupportedOperationException("the scoop may not be made");
        }
        history.keep(spare);
        return now.pits();
    }

    public int play() throws NoSuchElementException {
        if (!findTold()) {
            throw new NoSuchElementException("no scoop is told");
        }
        history.keep(now);
        now.make(found);
        return now.pits();
    }

    public int scoops() {
        return now.scoopsInAll();
    }

    public int scoopAt(int place, int what) throws NoSuchElementException, IllegalArgumentException {
        if (!findAt(place)) {
            throw new NoSuchElementException("no such place");
        }
        if (what < 0 || what > 2) {
            throw new IllegalArgumentException("no such part of a scoop");
        }
        return found.part(what);
    }

    public int told(int what) throws NoSuchElementException, IllegalArgumentException {
        if (!findTold()) {
            throw new NoSuchElementException("no scoop is told");
        }
        if (what < 0 || what > 2) {
            throw new IllegalArgumentException("no such part of a scoop");
        }
        return found.part(what);
    }

    public boolean wins(boolean isAgain) throws IllegalStateException {
        if (!isAgain) {
            return winsByValues();
        }
        if (now.marblesInAll() > MOST_TRIED) {
            throw new IllegalStateException("too many marbles for trying");
        }
        return trial.isWon(now);
    }

    public int next() throws UnsupportedOperationException {
        spare.become(now);
        if (tryNext() == REFUSED) {
            throw new UnsupportedOperationException("the game is not over");
        }
        history.keep(spare);
        return spare.winner();
    }

    public int turn() {
        return now.monkAtTurn();
    }

    public int monkOf(int monk, int what) throws IndexOutOfBoundsException, IllegalArgumentException {
        if (!isMonk(monk)) {
            throw new IndexOutOfBoundsException("no such monk");
        }
        if (what < 0 || what >= TALLIES) {
            throw new IllegalArgumentException("no such number of a monk");
        }
        return now.tally(monk, what);
    }

    // Values

    public int value(int marbles, boolean isAgain) throws IllegalArgumentException {
        if (!isNumber(marbles)) {
            throw new IllegalArgumentException("the marbles are not from 0 to 30");
        }
        return isAgain ? values.ofBits(marbles) : values.of(marbles);
    }

    public boolean lists(int marbles, int value) throws IllegalArgumentException {
        if (!isNumber(marbles)) {
            throw new IllegalArgumentException("the marbles are not from 0 to 30");
        }
        return values.hasInList(marbles, value);
    }

    public int listed(int marbles) throws IllegalArgumentException {
        if (!isNumber(marbles)) {
            throw new IllegalArgumentException("the marbles are not from 0 to 30");
        }
        return values.differentInList(marbles);
    }

    public int sum() {
        return sumOf(now);
    }

    public int period(int from) throws IllegalArgumentException, NoSuchElementException {
        if (from < 0 || from >= MOST_IN_PIT) {
            throw new IllegalArgumentException("the beginning is not from 0 to 29");
        }
        for (int length = 1; length <= MOST_IN_PIT - from; length++) {
            if (values.isPeriod(from, length)) {
                return length;
            }
        }
        throw new NoSuchElementException("no period");
    }

    public int least(int value) throws NoSuchElementException {
        for (int marbles = 0; marbles <= MOST_IN_PIT; marbles++) {
            if (values.of(marbles) == value) {
                return marbles;
            }
        }
        throw new NoSuchElementException("no number of marbles has the value");
    }

    // Lines, texts, accounts, undo and snapshot

    public int line() {
        written.setLength(0);
        for (int pit = 0; pit < now.pits(); pit++) {
            written.append(now.marblesIn(pit)).append(':').append(valueOfPit(pit)).append(' ');
        }
        written.append('=').append(sumOf(now));
        return written.length();
    }

    public int valuesLine(int marbles) throws IllegalArgumentException {
        if (!isNumber(marbles)) {
            throw new IllegalArgumentException("the marbles are not from 0 to 30");
        }
        written.setLength(0);
        for (int number = 0; number <= marbles; number++) {
            if (number > 0) {
                written.append(',');
            }
            written.append(values.of(number));
        }
        return written.length();
    }

    public char character(int index) throws IndexOutOfBoundsException {
        if (index < 0 || index >= written.length()) {
            throw new IndexOutOfBoundsException("no such index in the line");
        }
        return written.charAt(index);
    }

    public int append(char c) throws IllegalStateException {
        if (text.isFull()) {
            throw new IllegalStateException("the input is full");
        }
        text.add(c);
        return text.length();
    }

    public int run() throws IllegalArgumentException, UnsupportedOperationException {
        errorAt = text.readOrders();
        text.clear();
        if (errorAt != NONE) {
            throw new IllegalArgumentException("the text has an error");
        }
        spare.become(now);
        int end = tryOrders();
        if (end == REFUSED) {
            throw new UnsupportedOperationException("an order is refused");
        }
        if (end != FINE) {
            throw new IllegalArgumentException("an order cannot be carried out");
        }
        history.keep(spare);
        values.learn(now);
        return text.orders();
    }

    public int errorPosition() {
        return errorAt;
    }

    public int refusal(boolean isDetail) throws NoSuchElementException {
        if (reason == NOTHING_REFUSED) {
            throw new NoSuchElementException("nothing was refused");
        }
        return isDetail ? detail : reason;
    }

    public int account(int what) throws IllegalArgumentException {
        switch (what) {
            case 0:
                return now.pits();
            case 1:
                return now.marblesInAll();
            case 2:
                return now.marblesCame();
            case 3:
                return now.tallyOfBoth(TAKEN);
            case 4:
                return now.marblesLeftLying();
            case 5:
                return now.gamesSoFar();
            case 6:
                return now.tallyOfBoth(SCOOPS_NOW);
            case 7:
                return values.greatest();
            case 8:
                return text.length();
            case 9:
                return history.size();
            default:
                throw new IllegalArgumentException("no such account");
        }
    }

    public boolean isWell() {
        return values.areAlike() && isEveryMarbleKnown() && isToldRight() && isWinningToldAlike();
    }

    public double meanMarbles() throws ArithmeticException {
        int pits = now.pits();
        if (pits == 0) {
            throw new ArithmeticException("there are no pits");
        }
        return (double) now.marblesInAll() / (double) pits;
    }

    public float share(int monk) throws IndexOutOfBoundsException, ArithmeticException {
        if (!isMonk(monk)) {
            throw new IndexOutOfBoundsException("no such monk");
        }
        int all = now.tallyOfBoth(SCOOPS);
        if (all == 0) {
            throw new ArithmeticException("there were no scoops");
        }
        return (float) now.tally(monk, SCOOPS) / (float) all;
    }

    public int undo() throws IllegalStateException {
        if (history.size() == 0) {
            throw new IllegalStateException("no change can be undone");
        }
        history.giveBack(now);
        values.learn(now);
        return history.size();
    }

    public int save() {
        snapshot.become(now);
        hasSnapshot = true;
        return now.pits();
    }

    public int restore() throws IllegalStateException {
        if (!hasSnapshot) {
            throw new IllegalStateException("there is no snapshot");
        }
        now.become(snapshot);
        history.forget();
        values.learn(now);
        return now.pits();
    }

    // Ranges

    private static boolean isTake(int take) {
        return take >= 1 && take <= MOST_TAKEN;
    }

    private static boolean isMonk(int monk) {
        return monk >= 0 && monk < MONKS;
    }

    private static boolean isNumber(int marbles) {
        return marbles >= 0 && marbles <= MOST_IN_PIT;
    }

    // Changes: each is made if its try ends fine; otherwise nothing but the reason changes

    private int refuse(int why, int number) {
        reason = why;
        detail = number;
        return REFUSED;
    }

    private int tryPit(int marbles) {
        if (marbles < 1 || marbles > MOST_IN_PIT) {
            return BAD_ARGUMENT;
        }
        int all = now.marblesInAll() + marbles;
        if (all > MOST_IN_ALL) {
            return refuse(TOO_MANY_MARBLES, all);
        }
        now.bringPit(marbles);
        return FINE;
    }

    private int tryDigit(int take, int digit) {
        if (!isTake(take) || digit < 0 || digit > MOST_DIGIT) {
            return BAD_ARGUMENT;
        }
        if (now.digitFor(take) == digit) {
            return refuse(ALREADY_SO, digit);
        }
        now.setDigit(take, digit);
        return FINE;
    }

    private int tryScoop(int pit, int take, int left) {
        if (!now.hasPit(pit)) {
            return NO_PLACE;
        }
        int marbles = now.marblesIn(pit);
        if (!isTake(take) || left < 0 || left == 0 && take < marbles) {
            return BAD_ARGUMENT;
        }
        // not take + left: what is left may be as great as an int can be
        if (left > marbles - take) {
            return refuse(TOO_FEW_MARBLES, marbles);
        }
        if (!now.lets(marbles, take, left)) {
            return refuse(DIGIT_FORBIDS, now.digitFor(take));
        }
        found.set(pit, take, left);
        now.make(found);
        return FINE;
    }

    private int tryNext() {
        int scoops = now.scoopsInAll();
        if (scoops > 0) {
            return refuse(NOT_OVER, scoops);
        }
        now.beginNext();
        return FINE;
    }

    /** Carries out the orders that were read, or none of them; the spare garden is as it was before them. */
    private int tryOrders() {
        for (int order = 0; order < text.orders(); order++) {
            int end = tryOrder(order);
            if (end != FINE) {
                now.become(spare);
                return end;
            }
        }
        return FINE;
    }

    private int tryOrder(int order) {
        int first = text.number(order, 0);
        int second = text.number(order, 1);
        switch (text.kind(order)) {
            case 'p':
                return tryPit(first);
            case 'c':
                return tryDigit(first, second);
            case 's':
                return tryScoop(first, second, leftByOrder(order));
            default:
                return tryNext();
        }
    }

    private int leftByOrder(int order) {
        int told = text.number(order, 2);
        if (told != NONE) {
            return told;
        }
        int others = now.marblesIn(text.number(order, 0)) - text.number(order, 1);
        return others > 0 ? others : 0;
    }

    // Sums and scoops that are looked for

    private int valueOfPit(int pit) {
        return values.of(now.marblesIn(pit));
    }

    private int sumOf(Garden garden) {
        int sum = 0;
        for (int pit = 0; pit < garden.pits(); pit++) {
            sum ^= values.of(garden.marblesIn(pit));
        }
        return sum;
    }

    /** How many pits stand before a pit when they are ranked. */
    private int rankOf(int pit) {
        int before = 0;
        for (int other = 0; other < now.pits(); other++) {
            if (isRankedBefore(other, pit)) {
                before++;
            }
        }
        return before;
    }

    private boolean isRankedBefore(int one, int other) {
        int byValue = valueOfPit(one) - valueOfPit(other);
        if (byValue != 0) {
            return byValue > 0;
        }
        int byMarbles = now.marblesIn(one) - now.marblesIn(other);
        return byMarbles != 0 ? byMarbles < 0 : one < other;
    }

    private boolean findAt(int place) {
        int before = 0;
        for (int pit = 0; pit < now.pits(); pit++) {
            int scoops = now.scoopsOf(pit);
            if (place >= before && place < before + scoops) {
                return findInPit(pit, place - before);
            }
            before += scoops;
        }
        return false;
    }

    private boolean findInPit(int pit, int place) {
        int marbles = now.marblesIn(pit);
        int before = 0;
        for (int take = 1; take <= MOST_TAKEN; take++) {
            for (int left = 0; left <= marbles - take; left++) {
                if (now.lets(marbles, take, left)) {
                    if (before == place) {
                        found.set(pit, take, left);
                        return true;
                    }
                    before++;
                }
            }
        }
        return false;
    }

    private boolean findTold() {
        int sum = sumOf(now);
        for (int pit = 0; pit < now.pits(); pit++) {
            if (findToldInPit(pit, sum ^ valueOfPit(pit))) {
                return true;
            }
        }
        return false;
    }

    /** Looks for the first scoop that leaves of a pit what has the value that all other pits have together. */
    private boolean findToldInPit(int pit, int wanted) {
        int marbles = now.marblesIn(pit);
        for (int take = 1; take <= MOST_TAKEN; take++) {
            for (int left = 0; left <= marbles - take; left++) {
                if (now.lets(marbles, take, left)
                        && (values.of(left) ^ values.of(marbles - take - left)) == wanted) {
                    found.set(pit, take, left);
                    return true;
                }
            }
        }
        return false;
    }

    // Whether all is well

    private boolean isEveryMarbleKnown() {
        return now.marblesCame() == now.marblesInAll() + now.tallyOfBoth(TAKEN) + now.marblesLeftLying();
    }

    /** Makes the scoop told in the spare garden, instead of reckoning what would be behind it. */
    private boolean isToldRight() {
        if (!findTold()) {
            return true;
        }
        spare.become(now);
        spare.make(found);
        return sumOf(spare) == 0;
    }

    private boolean winsByValues() {
        return sumOf(now) != 0;
    }

    private boolean isWinningToldAlike() {
        return now.marblesInAll() > MOST_TRIED || winsByValues() == trial.isWon(now);
    }

    /** All that changes can change. */
    private static final class Garden {
        private final int[] marbles = new int[MOST_IN_ALL];
        private final int[] digits = new int[MOST_TAKEN];
        private final int[] tallies = new int[MONKS * TALLIES];
        private int pits;
        private int atTurn;
        private int came;
        private int leftLying;
        private int games;

        void become(Garden other) {
            System.arraycopy(other.marbles, 0, marbles, 0, MOST_IN_ALL);
            System.arraycopy(other.digits, 0, digits, 0, MOST_TAKEN);
            System.arraycopy(other.tallies, 0, tallies, 0, MONKS * TALLIES);
            pits = other.pits;
            atTurn = other.atTurn;
            came = other.came;
            leftLying = other.leftLying;
            games = other.games;
        }

        int pits() {
            return pits;
        }

        int monkAtTurn() {
            return atTurn;
        }

        int marblesCame() {
            return came;
        }

        int marblesLeftLying() {
            return leftLying;
        }

        int gamesSoFar() {
            return games;
        }

        boolean hasPit(int pit) {
            return pit >= 0 && pit < pits && pit < MOST_IN_ALL;
        }

        int marblesIn(int pit) {
            return hasPit(pit) ? marbles[pit] : 0;
        }

        int marblesInAll() {
            int all = 0;
            for (int pit = 0; pit < pits; pit++) {
                all += marblesIn(pit);
            }
            return all;
        }

        int digitFor(int take) {
            return take >= 1 && take <= MOST_TAKEN ? digits[take - 1] : 0;
        }

        void setDigit(int take, int digit) {
            if (take >= 1 && take <= MOST_TAKEN) {
                digits[take - 1] = digit;
            }
        }

        int tally(int monk, int what) {
            return isTally(monk, what) ? tallies[monk * TALLIES + what] : 0;
        }

        int tallyOfBoth(int what) {
            return tally(0, what) + tally(1, what);
        }

        private static boolean isTally(int monk, int what) {
            return monk >= 0 && monk < MONKS && what >= 0 && what < TALLIES;
        }

        private void addTally(int monk, int what, int more) {
            if (isTally(monk, what)) {
                tallies[monk * TALLIES + what] += more;
            }
        }

        /** Whether the digit of what is taken has what the scoop needs. */
        boolean lets(int size, int take, int left) {
            int others = size - take - left;
            if (left < 0 || others < 0 || left == 0 && others > 0) {
                return false;
            }
            int needed = left == 0 ? TAKES_ALL : others == 0 ? LETS_STAY : SPLITS;
            return (digitFor(take) & needed) != 0;
        }

        int scoopsOf(int pit) {
            int size = marblesIn(pit);
            int scoops = 0;
            for (int take = 1; take <= MOST_TAKEN; take++) {
                for (int left = 0; left <= size - take; left++) {
                    if (lets(size, take, left)) {
                        scoops++;
                    }
                }
            }
            return scoops;
        }

        int scoopsInAll() {
            int scoops = 0;
            for (int pit = 0; pit < pits; pit++) {
                scoops += scoopsOf(pit);
            }
            return scoops;
        }

        void bringPit(int size) {
            came += size;
            addPit(size);
        }

        private void addPit(int size) {
            if (pits >= 0 && pits < MOST_IN_ALL) {
                marbles[pits] = size;
                pits++;
            }
        }

        private void removePit(int pit) {
            for (int behind = pit + 1; behind > 0 && behind < pits && behind < MOST_IN_ALL; behind++) {
                marbles[behind - 1] = marbles[behind];
            }
            pits--;
        }

        /** Makes a scoop that may be made. */
        void make(Scoop scoop) {
            int pit = scoop.from();
            if (!hasPit(pit)) {
                return;
            }
            int others = marbles[pit] - scoop.taken() - scoop.left();
            marbles[pit] = scoop.left();
            if (others > 0) {
                addPit(others);
            }
            if (scoop.left() == 0) {
                removePit(pit);
            }
            addTally(atTurn, SCOOPS, 1);
            addTally(atTurn, SCOOPS_NOW, 1);
            addTally(atTurn, TAKEN, scoop.taken());
            atTurn = 1 - atTurn;
        }

        /** The monk who has won this game if it is over: the last scoop gave the turn to the other one. */
        int winner() {
            return tallyOfBoth(SCOOPS_NOW) == 0 ? NOBODY : 1 - atTurn;
        }

        void beginNext() {
            addTally(winner(), WON, 1);
            for (int monk = 0; monk < MONKS; monk++) {
                addTally(monk, SCOOPS_NOW, -tally(monk, SCOOPS_NOW));
            }
            leftLying += marblesInAll();
            games++;
            pits = 0;
        }
    }

    /** The gardens before the latest changes; the oldest goes when there is no room. */
    private static final class History {
        private static final int MOST = 8;

        private final Garden[] kept = new Garden[MOST];
        private int oldest;
        private int size;

        History() {
            for (int place = 0; place < MOST; place++) {
                kept[place] = new Garden();
            }
        }

        int size() {
            return size;
        }

        void forget() {
            size = 0;
        }

        /** The garden that was kept so many changes after the oldest. */
        private Garden keptAt(int after) {
            int place = oldest + after < MOST ? oldest + after : oldest + after - MOST;
            return place >= 0 && place < MOST ? kept[place] : null;
        }

        void keep(Garden garden) {
            if (size == MOST) {
                oldest = oldest + 1 < MOST ? oldest + 1 : 0;
                size--;
            }
            Garden place = keptAt(size);
            if (place != null) {
                place.become(garden);
                size++;
            }
        }

        void giveBack(Garden garden) {
            if (size == 0) {
                return;
            }
            size--;
            Garden latest = keptAt(size);
            if (latest != null) {
                garden.become(latest);
            }
        }
    }

    /** A scoop: of which pit, what is taken and what is left in the pit. */
    private static final class Scoop {
        private int from;
        private int taken;
        private int left;

        void set(int pit, int take, int stays) {
            from = pit;
            taken = take;
            left = stays;
        }

        int from() {
            return from;
        }

        int taken() {
            return taken;
        }

        int left() {
            return left;
        }

        int part(int what) {
            return what == 0 ? from : what == 1 ? taken : left;
        }
    }

    /** The values of all numbers of marbles under the digits of a garden, found in two ways. */
    private static final class Values {
        /* A value is at most as great as its marbles, so two of them put together stay below this too. */
        private static final int VALUES = 32;

        /* At first all are 0, and without digits all values are 0 too. */
        private final int[] digits = new int[MOST_TAKEN + 1];
        private final int[] byList = new int[MOST_IN_PIT + 1];
        private final int[] byBits = new int[MOST_IN_PIT + 1];
        private final int[] bits = new int[MOST_IN_PIT + 1];
        private final boolean[] isListed = new boolean[VALUES];

        /** Finds the values anew if the garden has other digits than before. */
        void learn(Garden garden) {
            boolean isOther = false;
            for (int take = 1; take <= MOST_TAKEN; take++) {
                isOther |= digits[take] != garden.digitFor(take);
                digits[take] = garden.digitFor(take);
            }
            if (isOther) {
                reckon(garden);
            }
        }

        private void reckon(Garden garden) {
            for (int marbles = 0; marbles <= MOST_IN_PIT; marbles++) {
                makeList(garden, marbles);
                byList[marbles] = lookThroughList();
            }
            for (int marbles = 0; marbles <= MOST_IN_PIT; marbles++) {
                bits[marbles] = bitsOf(garden, marbles);
                byBits[marbles] = Integer.numberOfTrailingZeros(~bits[marbles]);
            }
        }

        private void makeList(Garden garden, int marbles) {
            for (int value = 0; value < VALUES; value++) {
                isListed[value] = false;
            }
            for (int take = 1; take <= MOST_TAKEN; take++) {
                for (int left = 0; left <= marbles - take; left++) {
                    if (garden.lets(marbles, take, left)) {
                        putInList(of(left) ^ of(marbles - take - left));
                    }
                }
            }
        }

        private void putInList(int value) {
            if (value >= 0 && value < VALUES) {
                isListed[value] = true;
            }
        }

        private int lookThroughList() {
            int value = 0;
            while (value < VALUES && isListed[value]) {
                value++;
            }
            return value;
        }

        private int bitsOf(Garden garden, int marbles) {
            int set = 0;
            for (int take = 1; take <= MOST_TAKEN; take++) {
                int digit = garden.digitFor(take);
                int others = marbles - take;
                if (others == 0 && (digit & TAKES_ALL) != 0) {
                    set |= 1;
                }
                if (others > 0 && (digit & LETS_STAY) != 0) {
                    set |= 1 << ofBits(others);
                }
                if ((digit & SPLITS) != 0) {
                    set |= bitsOfSplits(others);
                }
            }
            return set;
        }

        private int bitsOfSplits(int others) {
            int set = 0;
            for (int less = 1; less <= others - less; less++) {
                set |= 1 << (ofBits(less) ^ ofBits(others - less));
            }
            return set;
        }

        int of(int marbles) {
            return isNumber(marbles) ? byList[marbles] : 0;
        }

        int ofBits(int marbles) {
            return isNumber(marbles) ? byBits[marbles] : 0;
        }

        boolean hasInList(int marbles, int value) {
            return isNumber(marbles) && value >= 0 && value < VALUES && (bits[marbles] >>> value & 1) == 1;
        }

        int differentInList(int marbles) {
            return isNumber(marbles) ? Integer.bitCount(bits[marbles]) : 0;
        }

        int greatest() {
            int greatest = 0;
            for (int marbles = 0; marbles <= MOST_IN_PIT; marbles++) {
                greatest = Math.max(greatest, byList[marbles]);
            }
            return greatest;
        }

        boolean isPeriod(int from, int length) {
            for (int marbles = from; marbles <= MOST_IN_PIT - length; marbles++) {
                if (of(marbles) != of(marbles + length)) {
                    return false;
                }
            }
            return true;
        }

        boolean areAlike() {
            for (int marbles = 0; marbles <= MOST_IN_PIT; marbles++) {
                if (byList[marbles] != byBits[marbles]) {
                    return false;
                }
            }
            return true;
        }
    }

    /**
     * Finds out who wins by trying all scoops, one within the other. Pits with as many marbles can be scooped
     * alike, so a crowd only tells how many pits there are of each size: in four bits for the size 1, then in
     * four for 2, up to 10. What was found for a crowd is kept, since many orders of scoops lead to the same one.
     */
    private static final class Trial {
        /* So many there are with at most 10 marbles. */
        private static final int MOST_CROWDS = 139;

        private final long[] crowds = new long[MOST_CROWDS];
        private final boolean[] isWinning = new boolean[MOST_CROWDS];
        private int tried;

        /** Whether the monk at the turn wins a garden of at most 10 marbles. */
        boolean isWon(Garden garden) {
            tried = 0;
            long crowd = 0;
            for (int pit = 0; pit < garden.pits(); pit++) {
                crowd += oneOf(garden.marblesIn(pit));
            }
            return canWin(garden, crowd, 0);
        }

        private boolean canWin(Garden garden, long crowd, int depth) {
            // each scoop takes a marble, so it never goes deeper than there are marbles
            if (depth > MOST_TRIED) {
                return false;
            }
            for (int place = 0; place < tried && place < MOST_CROWDS; place++) {
                if (crowds[place] == crowd) {
                    return isWinning[place];
                }
            }
            boolean canWin = canWinByAny(garden, crowd, depth);
            note(crowd, canWin);
            return canWin;
        }

        private void note(long crowd, boolean canWin) {
            if (tried >= 0 && tried < MOST_CROWDS) {
                crowds[tried] = crowd;
                isWinning[tried] = canWin;
                tried++;
            }
        }

        private boolean canWinByAny(Garden garden, long crowd, int depth) {
            for (int size = 1; size <= MOST_TRIED; size++) {
                if (isIn(crowd, size) && canWinFrom(garden, crowd, size, depth)) {
                    return true;
                }
            }
            return false;
        }

        private boolean canWinFrom(Garden garden, long crowd, int size, int depth) {
            for (int take = 1; take <= MOST_TAKEN; take++) {
                for (int left = 0; left <= size - take; left++) {
                    if (garden.lets(size, take, left)) {
                        long behind = crowd - oneOf(size) + oneOf(left) + oneOf(size - take - left);
                        if (!canWin(garden, behind, depth + 1)) {
                            return true;
                        }
                    }
                }
            }
            return false;
        }

        private static long oneOf(int size) {
            return size < 1 || size > MOST_TRIED ? 0L : 1L << 4 * (size - 1);
        }

        private static boolean isIn(long crowd, int size) {
            return (crowd & oneOf(size) * 15L) != 0L;
        }
    }

    /** The input, and the orders that were read from it. */
    private static final class Text {
        private static final int MOST_SIGNS = 60;
        /* An order has a sign at least, and a semicolon stands between two. */
        private static final int MOST_ORDERS = 30;
        private static final int NUMBERS = 3;

        private final char[] signs = new char[MOST_SIGNS];
        private final char[] kinds = new char[MOST_ORDERS];
        private final int[] numbers = new int[MOST_ORDERS * NUMBERS];
        private int length;
        private int position;
        private int orders;

        int length() {
            return length;
        }

        boolean isFull() {
            return length >= MOST_SIGNS;
        }

        void add(char sign) {
            if (length >= 0 && length < MOST_SIGNS) {
                signs[length] = sign;
                length++;
            }
        }

        /** Empties the input; the orders that were read stay. */
        void clear() {
            length = 0;
        }

        int orders() {
            return orders;
        }

        char kind(int order) {
            return order >= 0 && order < MOST_ORDERS ? kinds[order] : 'n';
        }

        int number(int order, int which) {
            return order >= 0 && order < MOST_ORDERS && which >= 0 && which < NUMBERS
                    ? numbers[order * NUMBERS + which] : NONE;
        }

        /** Reads the text as orders; returns the error position, or NONE if there is no error. */
        int readOrders() {
            position = 0;
            orders = 0;
            boolean isRight = readOrder();
            for (int turn = 0; turn < MOST_SIGNS && isRight && position < length; turn++) {
                isRight = skip(';') && readOrder();
            }
            return isRight ? NONE : position;
        }

        private boolean readOrder() {
            if (orders < 0 || orders >= MOST_ORDERS) {
                return false;
            }
            char kind = sign();
            kinds[orders] = kind;
            for (int which = 0; which < NUMBERS; which++) {
                setNumber(which, NONE);
            }
            boolean isRight = (kind == 'p' || kind == 'c' || kind == 's' || kind == 'n') && skip(kind)
                    && readNumbers(kind);
            orders++;
            return isRight;
        }

        private boolean readNumbers(char kind) {
            if (kind == 'p') {
                return readNumber(0);
            }
            if (kind == 'c') {
                return readDigit(0) && skip('=') && readDigit(1);
            }
            if (kind == 's') {
                boolean isRight = readNumber(0) && skip('-') && readDigit(1);
                return isRight && sign() == '/' ? skip('/') && readNumber(2) : isRight;
            }
            return true;
        }

        private boolean readDigit(int which) {
            char sign = sign();
            if (sign < '0' || sign > '9') {
                return false;
            }
            setNumber(which, sign - '0');
            position++;
            return true;
        }

        private boolean readNumber(int which) {
            if (!readDigit(which)) {
                return false;
            }
            int tens = number(orders, which);
            if (readDigit(which)) {
                setNumber(which, tens * 10 + number(orders, which));
            }
            return true;
        }

        private void setNumber(int which, int number) {
            if (orders >= 0 && orders < MOST_ORDERS && which >= 0 && which < NUMBERS) {
                numbers[orders * NUMBERS + which] = number;
            }
        }

        private boolean skip(char sign) {
            if (position >= length || sign() != sign) {
                return false;
            }
            position++;
            return true;
        }

        /** The sign at the position; behind the end a sign that no order has. */
        private char sign() {
            return position >= 0 && position < length && position < MOST_SIGNS ? signs[position] : (char) 0;
        }
    }
}
