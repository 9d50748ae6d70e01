import java.util.Arrays;
import java.util.NoSuchElementException;

/**
 * A row of watchtowers that pass letters on by smoke. What each member promises is told in the project's document; the
 * comments here tell only why things are done as they are.
 */
public final class SmokeRelay {
    public static final int NO_RELAY = 1;
    public static final int GARBLED = 2;

    private static final int POSITIONS = 32;
    private static final int HIGHEST = 9;
    private static final int STRONGEST_WIND = 9;
    private static final int MOST_TOWERS = 8;
    private static final int MOODS = 4;
    private static final int LOG_SIZE = 8;
    private static final int LETTERS = 16;
    private static final int SMOKES = 8;
    private static final int PATTERNS = 256;
    private static final char FIRST_LETTER = 'a';
    private static final int NONE = -1;

    private final Row row = new Row();
    // A change is kept for undo only once it has succeeded, so what was there before it waits here.
    private final Row before = new Row();
    private final Row saved = new Row();
    private final History history = new History();
    private final Sight sight = new Sight(row);
    private final Relays relays = new Relays(row, sight);
    private final Smokes smokes = new Smokes();
    private final Codes codes = new Codes(row);
    private final Input input = new Input();
    private final Output output = new Output();
    private boolean isSaved = false;
    private int keptReason = NONE;
    private int keptDetail = NONE;
    private int keptErrorPosition = NONE;
    private int keptFailedCommand = NONE;

    public SmokeRelay() {
    }

    // Ground and towers.

    public int setGround(int position, int height) throws IllegalArgumentException {
        if (!fitsGround(position, height)) {
            throw new IllegalArgumentException("no such position or height");
        }
        history.keep(row);
        int previous = row.ground[position];
        row.ground[position] = height;
        return previous;
    }

    public int addTower(int position, int height, int mood) throws IllegalArgumentException, IllegalStateException {
        if (!fitsTower(position, height, mood)) {
            throw new IllegalArgumentException("no such position, height or mood");
        }
        if (!hasRoom(position)) {
            throw new IllegalStateException("no room for a tower");
        }
        history.keep(row);
        return row.append(position, height, mood);
    }

    public int setMood(int tower, int mood) throws IndexOutOfBoundsException, IllegalArgumentException {
        requireTower(tower);
        if (!isMood(mood)) {
            throw new IllegalArgumentException("no such mood");
        }
        history.keep(row);
        int previous = row.moods[tower];
        row.moods[tower] = mood;
        return previous;
    }

    public int ground(int position) throws IllegalArgumentException {
        requirePosition(position);
        return row.ground[position];
    }

    public int towerCount() {
        return row.towers;
    }

    public int positionOf(int tower) throws IndexOutOfBoundsException {
        requireTower(tower);
        return row.positions[tower];
    }

    public int eye(int tower) throws IndexOutOfBoundsException {
        requireTower(tower);
        return row.eyeOf(tower);
    }

    public int mood(int tower) throws IndexOutOfBoundsException {
        requireTower(tower);
        return row.moods[tower];
    }

    public int towerAt(int position) throws IllegalArgumentException, NoSuchElementException {
        requirePosition(position);
        int tower = row.towerStandingAt(position);
        if (tower == NONE) {
            throw new NoSuchElementException("no tower stands there");
        }
        return tower;
    }

    public int towerByEye(int rank) throws NoSuchElementException {
        int tower = row.towerOfRank(rank);
        if (tower == NONE) {
            throw new NoSuchElementException("no such rank");
        }
        return tower;
    }

    // Sight and watches.

    public boolean canSee(int one, int other) throws IndexOutOfBoundsException {
        requireTowers(one, other);
        return sight.towersSee(one, other);
    }

    public boolean canSeeBySlopes(int one, int other) throws IndexOutOfBoundsException {
        requireTowers(one, other);
        return sight.towersSeeBySlopes(one, other);
    }

    public boolean seesPosition(int tower, int position) throws IndexOutOfBoundsException, IllegalArgumentException {
        requireTower(tower);
        requirePosition(position);
        return sight.towerSees(tower, position);
    }

    public int seenPositions(int tower) throws IndexOutOfBoundsException {
        requireTower(tower);
        return Integer.bitCount(sight.seenFrom(tower));
    }

    public int watchersOf(int position) throws IllegalArgumentException {
        requirePosition(position);
        int watchers = 0;
        for (int tower = 0; tower < row.towers; tower++) {
            if (sight.towerSees(tower, position)) {
                watchers++;
            }
        }
        return watchers;
    }

    public int fewestWatchers() {
        return sight.smallestWatch();
    }

    public int fewestWatchersByRecursion() {
        return sight.smallestWatchByRecursion();
    }

    // Wind and relays.

    public int setWind(int wind) throws IllegalArgumentException {
        if (!isWind(wind)) {
            throw new IllegalArgumentException("no such wind");
        }
        history.keep(row);
        int previous = row.wind;
        row.wind = wind;
        return previous;
    }

    public int wind() {
        return row.wind;
    }

    public int delay(int from, int to) throws IndexOutOfBoundsException, NoSuchElementException {
        requireTowers(from, to);
        if (!sight.towersSee(from, to)) {
            throw new NoSuchElementException("they do not see each other");
        }
        return relays.stepDelay(from, to);
    }

    public int relayDelay(int from, int to) throws IndexOutOfBoundsException, NoSuchElementException {
        requireRelay(from, to);
        return relays.delay;
    }

    public int relayDelayByTable(int from, int to) throws IndexOutOfBoundsException, NoSuchElementException {
        requireTowers(from, to);
        int delay = relays.delayByTable(from, to);
        if (delay == NONE) {
            throw new NoSuchElementException("there is no relay");
        }
        return delay;
    }

    public int relayLength(int from, int to) throws IndexOutOfBoundsException, NoSuchElementException {
        requireRelay(from, to);
        return relays.length;
    }

    public int relayTower(int from, int to, int place) throws IndexOutOfBoundsException, NoSuchElementException {
        requireRelay(from, to);
        if (place < 0 || place >= relays.length) {
            throw new NoSuchElementException("no such place in the relay");
        }
        return relays.relay[place];
    }

    public int groupCount() {
        return relays.groups();
    }

    // Patterns, moods and sending.

    public int pattern(char letter) throws IllegalArgumentException {
        requireLetter(letter);
        return smokes.patternOf(letter);
    }

    public char read(int pattern) throws IllegalArgumentException, NoSuchElementException {
        requirePattern(pattern);
        int letter = smokes.letterByGroups(pattern);
        if (letter == NONE) {
            throw new NoSuchElementException("the pattern cannot be read");
        }
        return (char) letter;
    }

    public char readBySearch(int pattern) throws IllegalArgumentException, NoSuchElementException {
        requirePattern(pattern);
        int letter = smokes.letterBySearch(pattern);
        if (letter == NONE) {
            throw new NoSuchElementException("the pattern cannot be read");
        }
        return (char) letter;
    }

    public int wrongSmokes(int pattern) throws IllegalArgumentException {
        requirePattern(pattern);
        return smokes.distanceToNearest(pattern);
    }

    public int nextPattern(int tower, char letter) throws IndexOutOfBoundsException, IllegalArgumentException {
        requireTower(tower);
        requireLetter(letter);
        return signalOf(tower, letter);
    }

    public int send(int from, int to, char letter)
            throws IndexOutOfBoundsException, IllegalArgumentException, UnsupportedOperationException {
        requireTowers(from, to);
        requireLetter(letter);
        before.copyFrom(row);
        if (!trySend(from, to, letter)) {
            throw new UnsupportedOperationException("the sending is refused");
        }
        history.keep(before);
        return relays.delay;
    }

    public boolean wouldBeRefused(int from, int to, char letter)
            throws IndexOutOfBoundsException, IllegalArgumentException {
        requireTowers(from, to);
        requireLetter(letter);
        return !relays.find(from, to) || firstGarbledReader(letter) != NONE;
    }

    public int count(int tower) throws IndexOutOfBoundsException {
        requireTower(tower);
        return row.counts[tower];
    }

    public int logLength(int tower) throws IndexOutOfBoundsException {
        requireTower(tower);
        return row.logLengths[tower];
    }

    public char logLetter(int tower, int recency) throws IndexOutOfBoundsException, NoSuchElementException {
        requireTower(tower);
        if (recency < 0 || recency >= row.logLengths[tower]) {
            throw new NoSuchElementException("no such letter in the log");
        }
        return row.loggedLetter(tower, row.logLengths[tower] - 1 - recency);
    }

    // Codes, refusals, statistics and output.

    public int sent(char letter) throws IllegalArgumentException {
        requireLetter(letter);
        return row.sendings[letter - FIRST_LETTER];
    }

    public int bestCost() {
        return codes.costByJoining();
    }

    public int bestCostByRows() {
        return codes.costByTwoRows();
    }

    public int refusalReason() throws NoSuchElementException {
        if (keptReason == NONE) {
            throw new NoSuchElementException("nothing was refused");
        }
        return keptReason;
    }

    public int refusalDetail() throws NoSuchElementException {
        if (keptReason == NONE) {
            throw new NoSuchElementException("nothing was refused");
        }
        return keptDetail;
    }

    public double meanEye() throws ArithmeticException {
        if (row.towers == 0) {
            throw new ArithmeticException("there are no towers");
        }
        int sum = 0;
        for (int tower = 0; tower < row.towers; tower++) {
            sum += row.eyeOf(tower);
        }
        return (double) sum / (double) row.towers;
    }

    public float calmFraction() throws ArithmeticException {
        if (row.towers == 0) {
            throw new ArithmeticException("there are no towers");
        }
        int calm = 0;
        for (int tower = 0; tower < row.towers; tower++) {
            if (row.moods[tower] == 0) {
                calm++;
            }
        }
        return (float) calm / (float) row.towers;
    }

    public int writeTower(int tower) throws IndexOutOfBoundsException {
        requireTower(tower);
        output.clear();
        output.addNumber(row.positions[tower]);
        output.add('+');
        output.addNumber(row.heights[tower]);
        output.add('!');
        output.addNumber(row.moods[tower]);
        if (row.logLengths[tower] > 0) {
            output.add(':');
        }
        for (int place = 0; place < row.logLengths[tower]; place++) {
            output.add(row.loggedLetter(tower, place));
        }
        return output.length;
    }

    public int writeRelay(int from, int to) throws IndexOutOfBoundsException, NoSuchElementException {
        requireRelay(from, to);
        output.clear();
        for (int place = 0; place < relays.length; place++) {
            if (place > 0) {
                output.add('>');
            }
            output.addNumber(relays.relay[place]);
        }
        output.add('=');
        output.addNumber(relays.delay);
        return output.length;
    }

    public int writePattern(int pattern) throws IllegalArgumentException {
        requirePattern(pattern);
        output.clear();
        for (int smoke = 0; smoke < SMOKES; smoke++) {
            output.add((pattern >> smoke & 1) == 1 ? '*' : '.');
        }
        return output.length;
    }

    public char outputCharacter(int index) throws IndexOutOfBoundsException {
        if (index < 0 || index >= output.length) {
            throw new IndexOutOfBoundsException("no such character");
        }
        return output.text[index];
    }

    public boolean isConsistent() {
        return sight.methodsAgree() && relays.methodsAgree() && smokes.methodsAgree()
                && sight.smallestWatch() == sight.smallestWatchByRecursion()
                && codes.costByJoining() == codes.costByTwoRows();
    }

    // Commands, undo and saved state.

    public int feed(char character) throws IllegalStateException {
        if (!input.add(character)) {
            throw new IllegalStateException("the input buffer is full");
        }
        return input.length;
    }

    public int execute() throws IllegalArgumentException, UnsupportedOperationException {
        boolean wellFormed = input.parse();
        input.clear();
        if (!wellFormed) {
            keptErrorPosition = input.place;
            throw new IllegalArgumentException("the text is malformed");
        }
        before.copyFrom(row);
        for (int command = 0; command < input.commands; command++) {
            if (!tryCommand(command)) {
                row.copyFrom(before);
                keptFailedCommand = command;
                throw new UnsupportedOperationException("a command fails");
            }
        }
        history.keep(before);
        return input.commands;
    }

    public int errorPosition() throws NoSuchElementException {
        if (keptErrorPosition == NONE) {
            throw new NoSuchElementException("no error position was kept");
        }
        return keptErrorPosition;
    }

    public int failedCommand() throws NoSuchElementException {
        if (keptFailedCommand == NONE) {
            throw new NoSuchElementException("no failed command was kept");
        }
        return keptFailedCommand;
    }

    public int undo() throws IllegalStateException {
        if (!history.takeBack(row)) {
            throw new IllegalStateException("no change can be undone");
        }
        return history.size;
    }

    public int undoCount() {
        return history.size;
    }

    public int save() {
        saved.copyFrom(row);
        isSaved = true;
        return row.towers;
    }

    public int restore() throws IllegalStateException {
        if (!isSaved) {
            throw new IllegalStateException("nothing was saved");
        }
        row.copyFrom(saved);
        history.clear();
        return row.towers;
    }

    // What the calls above share.

    private static boolean isPosition(int position) {
        return position >= 0 && position < POSITIONS;
    }

    private static boolean isMood(int mood) {
        return mood >= 0 && mood < MOODS;
    }

    private static boolean isWind(int wind) {
        return wind >= -STRONGEST_WIND && wind <= STRONGEST_WIND;
    }

    private static boolean fitsGround(int position, int height) {
        return isPosition(position) && height >= 0 && height <= HIGHEST;
    }

    private static boolean fitsTower(int position, int height, int mood) {
        return isPosition(position) && height >= 1 && height <= HIGHEST && isMood(mood);
    }

    private boolean isTower(int tower) {
        return tower >= 0 && tower < row.towers;
    }

    private boolean hasRoom(int position) {
        return row.towers < MOST_TOWERS && row.towerStandingAt(position) == NONE;
    }

    private static void requirePosition(int position) {
        if (!isPosition(position)) {
            throw new IllegalArgumentException("no such position");
        }
    }

    private static void requireLetter(char letter) {
        if (letter < FIRST_LETTER || letter >= FIRST_LETTER + LETTERS) {
            throw new IllegalArgumentException("no such letter");
        }
    }

    private static void requirePattern(int pattern) {
        if (pattern < 0 || pattern >= PATTERNS) {
            throw new IllegalArgumentException("no such pattern");
        }
    }

    private void requireTower(int tower) {
        if (!isTower(tower)) {
            throw new IndexOutOfBoundsException("no such tower");
        }
    }

    private void requireTowers(int one, int other) {
        requireTower(one);
        requireTower(other);
    }

    private void requireRelay(int from, int to) {
        requireTowers(from, to);
        if (!relays.find(from, to)) {
            throw new NoSuchElementException("there is no relay");
        }
    }

    private int signalOf(int tower, char letter) {
        return smokes.patternOf(letter) ^ Smokes.changedBy(row.moods[tower], row.counts[tower]);
    }

    /** Of the relay that was found last; a relay visits no tower twice, so each sends with the count it has now. */
    private int firstGarbledReader(char letter) {
        for (int place = 1; place < relays.length; place++) {
            int signal = signalOf(relays.relay[place - 1], letter);
            if (smokes.letterByGroups(signal) == NONE) {
                return relays.relay[place];
            }
        }
        return NONE;
    }

    private boolean trySend(int from, int to, char letter) {
        if (!relays.find(from, to)) {
            keepRefusal(NO_RELAY, from);
            return false;
        }
        int reader = firstGarbledReader(letter);
        if (reader != NONE) {
            keepRefusal(GARBLED, reader);
            return false;
        }
        passOn(letter);
        return true;
    }

    private void keepRefusal(int reason, int detail) {
        keptReason = reason;
        keptDetail = detail;
    }

    /** A pattern that can be read is at most one smoke away from its letter, so what is logged is what was sent. */
    private void passOn(char letter) {
        for (int place = 1; place < relays.length; place++) {
            row.counts[relays.relay[place - 1]]++;
            row.addToLog(relays.relay[place], letter);
        }
        row.sendings[letter - FIRST_LETTER]++;
    }

    private boolean tryCommand(int command) {
        Kind kind = input.kindOf(command);
        if (kind == null) {
            return false;
        }
        int first = input.valueOf(command, 0);
        int second = input.valueOf(command, 1);
        int third = input.valueOf(command, 2);
        switch (kind) {
            case GROUND:
                return tryGround(first, second);
            case TOWER:
                return tryTower(first, second, third);
            case MOOD:
                return tryMood(first, second);
            case WIND:
                row.wind = first;
                return true;
            default:
                return isTower(first) && isTower(second) && trySend(first, second, (char) third);
        }
    }

    private boolean tryGround(int position, int height) {
        if (!fitsGround(position, height)) {
            return false;
        }
        row.ground[position] = height;
        return true;
    }

    private boolean tryTower(int position, int height, int mood) {
        return fitsTower(position, height, mood) && hasRoom(position) && row.append(position, height, mood) != NONE;
    }

    private boolean tryMood(int tower, int mood) {
        if (!isTower(tower) || !isMood(mood)) {
            return false;
        }
        row.moods[tower] = mood;
        return true;
    }

    /** Everything that changes can change, in one piece, so that undo, save and execute copy nothing else. */
    private static final class Row {
        final int[] ground = new int[POSITIONS];
        final int[] positions = new int[MOST_TOWERS];
        final int[] heights = new int[MOST_TOWERS];
        final int[] moods = new int[MOST_TOWERS];
        final int[] counts = new int[MOST_TOWERS];
        final int[] logLengths = new int[MOST_TOWERS];
        final int[] logs = new int[MOST_TOWERS * LOG_SIZE];
        final int[] sendings = new int[LETTERS];
        int towers = 0;
        int wind = 0;

        void copyFrom(Row other) {
            System.arraycopy(other.ground, 0, ground, 0, POSITIONS);
            System.arraycopy(other.positions, 0, positions, 0, MOST_TOWERS);
            System.arraycopy(other.heights, 0, heights, 0, MOST_TOWERS);
            System.arraycopy(other.moods, 0, moods, 0, MOST_TOWERS);
            System.arraycopy(other.counts, 0, counts, 0, MOST_TOWERS);
            System.arraycopy(other.logLengths, 0, logLengths, 0, MOST_TOWERS);
            System.arraycopy(other.logs, 0, logs, 0, MOST_TOWERS * LOG_SIZE);
            System.arraycopy(other.sendings, 0, sendings, 0, LETTERS);
            towers = other.towers;
            wind = other.wind;
        }

        /** Behind the last tower all counts and logs are empty: undo and restore bring back rows in which they were. */
        int append(int position, int height, int mood) {
            if (towers >= MOST_TOWERS) {
                return NONE;
            }
            int tower = towers;
            positions[tower] = position;
            heights[tower] = height;
            moods[tower] = mood;
            towers++;
            return tower;
        }

        int eyeOf(int tower) {
            return ground[positions[tower]] + heights[tower];
        }

        int towerStandingAt(int position) {
            for (int tower = 0; tower < towers; tower++) {
                if (positions[tower] == position) {
                    return tower;
                }
            }
            return NONE;
        }

        /** The rank of a tower is the number of towers ahead of it, so nothing has to be sorted. */
        int towerOfRank(int rank) {
            for (int tower = 0; tower < towers; tower++) {
                if (towersAheadOf(tower) == rank) {
                    return tower;
                }
            }
            return NONE;
        }

        private int towersAheadOf(int tower) {
            int ahead = 0;
            for (int other = 0; other < towers; other++) {
                int lead = eyeOf(other) - eyeOf(tower);
                if (lead > 0 || lead == 0 && other < tower) {
                    ahead++;
                }
            }
            return ahead;
        }

        char loggedLetter(int tower, int place) {
            return (char) logs[tower * LOG_SIZE + place];
        }

        void addToLog(int tower, char letter) {
            int start = tower * LOG_SIZE;
            if (logLengths[tower] == LOG_SIZE) {
                for (int place = start + 1; place < start + LOG_SIZE; place++) {
                    logs[place - 1] = logs[place];
                }
                logLengths[tower]--;
            }
            logs[start + logLengths[tower]] = letter;
            logLengths[tower]++;
        }
    }

    /** The rows as they were before the latest changes; the oldest one gives its place to a new one. */
    private static final class History {
        private static final int MOST_CHANGES = 8;
        private final Row[] rows = new Row[MOST_CHANGES];
        private int next = 0;
        int size = 0;

        History() {
            for (int place = 0; place < MOST_CHANGES; place++) {
                rows[place] = new Row();
            }
        }

        void keep(Row row) {
            Row place = rows[next];
            if (place != null) {
                place.copyFrom(row);
                next = (next + 1) % MOST_CHANGES;
                size = Math.min(size + 1, MOST_CHANGES);
            }
        }

        boolean takeBack(Row row) {
            int latest = (next + MOST_CHANGES - 1) % MOST_CHANGES;
            Row place = rows[latest];
            if (size == 0 || place == null) {
                return false;
            }
            row.copyFrom(place);
            next = latest;
            size--;
            return true;
        }

        void clear() {
            size = 0;
        }
    }

    /** Who sees whom and what. Lines and slopes are compared by cross products, so that nothing is rounded. */
    private static final class Sight {
        private static final int DEEPEST = -1000;
        private final Row row;
        // For each tower the positions that it sees, one binary digit each.
        private final int[] seen = new int[MOST_TOWERS];

        Sight(Row row) {
            this.row = row;
        }

        boolean towersSee(int one, int other) {
            return one != other
                    && isClear(row.positions[one], row.eyeOf(one), row.positions[other], row.eyeOf(other));
        }

        boolean towerSees(int tower, int position) {
            return isClear(row.positions[tower], row.eyeOf(tower), position, row.ground[position]);
        }

        /** The heights are those of the two ends of the line of sight. */
        private boolean isClear(int start, int startHeight, int end, int endHeight) {
            int distance = Math.abs(end - start);
            int direction = end > start ? 1 : -1;
            for (int step = 1; step < distance; step++) {
                int line = startHeight * (distance - step) + endHeight * step;
                if (row.ground[start + direction * step] * distance >= line) {
                    return false;
                }
            }
            return true;
        }

        boolean towersSeeBySlopes(int one, int other) {
            if (one == other) {
                return false;
            }
            int start = row.positions[one];
            int eye = row.eyeOf(one);
            int distance = Math.abs(row.positions[other] - start);
            int direction = row.positions[other] > start ? 1 : -1;
            int steepestRise = DEEPEST;
            int steepestRun = 1;
            for (int run = 1; run < distance; run++) {
                int rise = row.ground[start + direction * run] - eye;
                if (rise * steepestRun > steepestRise * run) {
                    steepestRise = rise;
                    steepestRun = run;
                }
            }
            return (row.eyeOf(other) - eye) * steepestRun > steepestRise * distance;
        }

        boolean methodsAgree() {
            for (int one = 0; one < row.towers; one++) {
                for (int other = 0; other < row.towers; other++) {
                    if (towersSee(one, other) != towersSeeBySlopes(one, other)) {
                        return false;
                    }
                }
            }
            return true;
        }

        int seenFrom(int tower) {
            int positions = 0;
            for (int position = 0; position < POSITIONS; position++) {
                if (towerSees(tower, position)) {
                    positions |= 1 << position;
                }
            }
            return positions;
        }

        private void lookAround() {
            for (int tower = 0; tower < MOST_TOWERS; tower++) {
                seen[tower] = tower < row.towers ? seenFrom(tower) : 0;
            }
        }

        /** A set of towers has one binary digit for each. */
        private int seenBy(int set) {
            int positions = 0;
            for (int tower = 0; tower < MOST_TOWERS; tower++) {
                if ((set >> tower & 1) == 1) {
                    positions |= seen[tower];
                }
            }
            return positions;
        }

        int smallestWatch() {
            lookAround();
            int sets = 1 << row.towers;
            int wanted = seenBy(sets - 1);
            for (int size = 0; size < row.towers; size++) {
                for (int set = 0; set < sets; set++) {
                    if (Integer.bitCount(set) == size && seenBy(set) == wanted) {
                        return size;
                    }
                }
            }
            return row.towers;
        }

        int smallestWatchByRecursion() {
            lookAround();
            return towersFor(seen, seenBy((1 << row.towers) - 1), row.towers);
        }

        /** Answers limit + 1 if limit towers are too few; each level has a lower limit, which ends the recursion. */
        private static int towersFor(int[] seen, int unseen, int limit) {
            if (unseen == 0) {
                return 0;
            }
            int best = limit + 1;
            int firstUnseen = unseen & -unseen;
            for (int tower = 0; tower < seen.length && best > 1; tower++) {
                if ((seen[tower] & firstUnseen) != 0) {
                    best = Math.min(best, 1 + towersFor(seen, unseen & ~seen[tower], best - 2));
                }
            }
            return best;
        }
    }

    /** The fastest relays, found anew for each call, since every change may move them. */
    private static final class Relays {
        private static final int FAR = 1000000;
        // More than the towers of any relay, so that one cost compares delays first and numbers of towers second.
        private static final int DELAY_WEIGHT = 16;
        private final Row row;
        private final Sight sight;
        private final int[][] steps = new int[MOST_TOWERS][MOST_TOWERS];
        private final int[][] table = new int[MOST_TOWERS][MOST_TOWERS];
        private final int[] costs = new int[MOST_TOWERS];
        final int[] relay = new int[MOST_TOWERS];
        int length = 0;
        int delay = 0;

        Relays(Row row, Sight sight) {
            this.row = row;
            this.sight = sight;
        }

        int stepDelay(int from, int to) {
            int way = row.positions[to] - row.positions[from];
            return Math.max(way > 0 ? way - row.wind : row.wind - way, 1);
        }

        private void measureSteps() {
            for (int from = 0; from < row.towers; from++) {
                for (int to = 0; to < row.towers; to++) {
                    steps[from][to] = sight.towersSee(from, to) ? stepDelay(from, to) : FAR;
                }
            }
        }

        /** False if there is no relay; otherwise the relay, its length and its delay stay until the next search. */
        boolean find(int from, int to) {
            measureSteps();
            settleTowards(to);
            length = 0;
            if (costs[from] >= FAR) {
                return false;
            }
            delay = costs[from] / DELAY_WEIGHT;
            int tower = from;
            relay[length++] = tower;
            while (tower != to && length < MOST_TOWERS) {
                tower = firstBestNext(tower);
                relay[length++] = tower;
            }
            return true;
        }

        /** The costs are those to the last tower, since the way there is then walked with the smallest index first. */
        private void settleTowards(int last) {
            Arrays.fill(costs, FAR);
            costs[last] = 0;
            int settled = 0;
            for (int round = 0; round < row.towers; round++) {
                int nearest = nearestOutside(settled);
                settled |= 1 << nearest;
                for (int tower = 0; tower < row.towers; tower++) {
                    costs[tower] = Math.min(costs[tower], costOver(tower, nearest));
                }
            }
        }

        private int nearestOutside(int settled) {
            int nearest = 0;
            int cost = FAR + 1;
            for (int tower = 0; tower < row.towers; tower++) {
                if ((settled >> tower & 1) == 0 && costs[tower] < cost) {
                    nearest = tower;
                    cost = costs[tower];
                }
            }
            return nearest;
        }

        private int costOver(int tower, int next) {
            if (steps[tower][next] >= FAR || costs[next] >= FAR) {
                return FAR;
            }
            return steps[tower][next] * DELAY_WEIGHT + 1 + costs[next];
        }

        private int firstBestNext(int tower) {
            for (int next = 0; next < row.towers; next++) {
                if (costOver(tower, next) == costs[tower]) {
                    return next;
                }
            }
            return tower;
        }

        private void fillTable() {
            for (int from = 0; from < row.towers; from++) {
                for (int to = 0; to < row.towers; to++) {
                    table[from][to] = from == to ? 0 : steps[from][to];
                }
            }
            for (int over = 0; over < row.towers; over++) {
                for (int from = 0; from < row.towers; from++) {
                    for (int to = 0; to < row.towers; to++) {
                        table[from][to] = Math.min(table[from][to], table[from][over] + table[over][to]);
                    }
                }
            }
        }

        int delayByTable(int from, int to) {
            measureSteps();
            fillTable();
            return table[from][to] >= FAR ? NONE : table[from][to];
        }

        boolean methodsAgree() {
            measureSteps();
            fillTable();
            for (int to = 0; to < row.towers; to++) {
                settleTowards(to);
                for (int from = 0; from < row.towers; from++) {
                    int settledDelay = costs[from] >= FAR ? FAR : costs[from] / DELAY_WEIGHT;
                    if (settledDelay != table[from][to]) {
                        return false;
                    }
                }
            }
            return true;
        }

        int groups() {
            measureSteps();
            fillTable();
            int groups = 0;
            for (int tower = 0; tower < row.towers; tower++) {
                if (isFirstOfGroup(tower)) {
                    groups++;
                }
            }
            return groups;
        }

        private boolean isFirstOfGroup(int tower) {
            for (int earlier = 0; earlier < tower; earlier++) {
                if (table[earlier][tower] < FAR) {
                    return false;
                }
            }
            return true;
        }
    }

    /** Letters as patterns of smokes, a smoke being one binary digit. */
    private static final class Smokes {
        // The smokes of which an even number burns in the pattern of a letter.
        private static final int GROUP_OF_1 = 0xAA;
        private static final int GROUP_OF_2 = 0xCC;
        private static final int GROUP_OF_4 = 0xF0;
        private final int[] patterns = new int[LETTERS];

        Smokes() {
            for (int value = 0; value < LETTERS; value++) {
                patterns[value] = encode(value);
            }
        }

        private static int oddness(int smokes) {
            return Integer.bitCount(smokes) & 1;
        }

        private static int encode(int value) {
            int pattern = (value & 1) << 3 | (value >> 1 & 1) << 5 | (value >> 2 & 1) << 6 | (value >> 3 & 1) << 7;
            int checks = oddness(pattern & GROUP_OF_1) << 1 | oddness(pattern & GROUP_OF_2) << 2
                    | oddness(pattern & GROUP_OF_4) << 4;
            pattern |= checks;
            return pattern | oddness(pattern);
        }

        int patternOf(char letter) {
            return patterns[letter - FIRST_LETTER];
        }

        static int changedBy(int mood, int count) {
            int smoke = 1 << (count & SMOKES - 1);
            switch (mood) {
                case 1:
                    return count % 3 == 2 ? smoke : 0;
                case 2:
                    return smoke;
                case 3:
                    return count % 2 == 1 ? smoke | 1 << (count + 3 & SMOKES - 1) : smoke;
                default:
                    return 0;
            }
        }

        /** The groups that are odd add up to the number of the wrong smoke; two wrong smokes leave the whole even. */
        int letterByGroups(int pattern) {
            int wrong = oddness(pattern & GROUP_OF_1) + 2 * oddness(pattern & GROUP_OF_2)
                    + 4 * oddness(pattern & GROUP_OF_4);
            boolean isOdd = oddness(pattern) == 1;
            if (!isOdd && wrong != 0) {
                return NONE;
            }
            int mended = isOdd ? pattern ^ 1 << wrong : pattern;
            int value = mended >> 3 & 1 | (mended >> 5 & 1) << 1 | (mended >> 6 & 1) << 2 | (mended >> 7 & 1) << 3;
            return FIRST_LETTER + value;
        }

        int letterBySearch(int pattern) {
            for (int value = 0; value < LETTERS; value++) {
                if (Integer.bitCount(patterns[value] ^ pattern) <= 1) {
                    return FIRST_LETTER + value;
                }
            }
            return NONE;
        }

        int distanceToNearest(int pattern) {
            int distance = SMOKES;
            for (int value = 0; value < LETTERS; value++) {
                distance = Math.min(distance, Integer.bitCount(patterns[value] ^ pattern));
            }
            return distance;
        }

        boolean methodsAgree() {
            for (int pattern = 0; pattern < PATTERNS; pattern++) {
                if (letterByGroups(pattern) != letterBySearch(pattern)) {
                    return false;
                }
            }
            return true;
        }
    }

    /** The cost of a code is the sum of all joined groups, so no words are made. */
    private static final class Codes {
        private final Row row;
        private final int[] groups = new int[LETTERS];
        private final int[] joined = new int[LETTERS];
        private int letters = 0;
        private int nextLetter = 0;
        private int nextJoined = 0;
        private int lastJoined = 0;

        Codes(Row row) {
            this.row = row;
        }

        private void gather() {
            letters = 0;
            for (int value = 0; value < LETTERS; value++) {
                if (row.sendings[value] > 0) {
                    groups[letters++] = row.sendings[value];
                }
            }
        }

        int costByJoining() {
            gather();
            if (letters == 1) {
                return groups[0];
            }
            int cost = 0;
            for (int left = letters; left > 1; left--) {
                moveRarestToEnd(left);
                moveRarestToEnd(left - 1);
                groups[left - 2] += groups[left - 1];
                cost += groups[left - 2];
            }
            return cost;
        }

        private void moveRarestToEnd(int left) {
            int rarest = left - 1;
            for (int group = 0; group < left; group++) {
                if (groups[group] < groups[rarest]) {
                    rarest = group;
                }
            }
            swapWithLast(rarest, left);
        }

        private void moveMostFrequentToEnd(int left) {
            int most = left - 1;
            for (int group = 0; group < left; group++) {
                if (groups[group] > groups[most]) {
                    most = group;
                }
            }
            swapWithLast(most, left);
        }

        private void swapWithLast(int group, int left) {
            int times = groups[group];
            groups[group] = groups[left - 1];
            groups[left - 1] = times;
        }

        int costByTwoRows() {
            gather();
            if (letters == 1) {
                return groups[0];
            }
            for (int left = letters; left > 1; left--) {
                moveMostFrequentToEnd(left);
            }
            nextLetter = 0;
            nextJoined = 0;
            lastJoined = 0;
            int cost = 0;
            for (int join = 1; join < letters; join++) {
                int sum = takeRarest() + takeRarest();
                joined[lastJoined++] = sum;
                cost += sum;
            }
            return cost;
        }

        private int takeRarest() {
            boolean hasJoined = nextJoined < lastJoined;
            if (nextLetter < letters && (!hasJoined || groups[nextLetter] <= joined[nextJoined])) {
                return groups[nextLetter++];
            }
            return hasJoined ? joined[nextJoined++] : 0;
        }
    }

    /** The forms of the commands: N stands for a number, D for a digit, W for a wind and L for a letter. */
    private enum Kind {
        GROUND("ground N*D"),
        TOWER("tower N+D!D"),
        MOOD("mood D!D"),
        WIND("wind W"),
        SEND("send D>D:L");

        final String form;

        Kind(String form) {
            this.form = form;
        }
    }

    /** The input buffer, and the commands that were last parsed from it. */
    private static final class Input {
        private static final int CAPACITY = 60;
        // A command has six characters or more.
        private static final int MOST_COMMANDS = CAPACITY / 6;
        private static final int MOST_VALUES = 3;
        private static final Kind[] KINDS = Kind.values();
        private final char[] text = new char[CAPACITY];
        private final Kind[] kinds = new Kind[MOST_COMMANDS];
        private final int[] values = new int[MOST_COMMANDS * MOST_VALUES];
        private int valuesTaken = 0;
        int length = 0;
        int place = 0;
        int commands = 0;

        boolean add(char character) {
            if (length >= CAPACITY) {
                return false;
            }
            text[length++] = character;
            return true;
        }

        void clear() {
            length = 0;
        }

        Kind kindOf(int command) {
            return command >= 0 && command < MOST_COMMANDS ? kinds[command] : null;
        }

        int valueOf(int command, int index) {
            int slot = command * MOST_VALUES + index;
            return slot >= 0 && slot < values.length ? values[slot] : NONE;
        }

        /** False if the text is malformed; the place then is its error position. */
        boolean parse() {
            place = 0;
            commands = 0;
            while (commands < MOST_COMMANDS) {
                if (!takeCommand()) {
                    return false;
                }
                commands++;
                if (place == length) {
                    return true;
                }
                if (!take(';')) {
                    return false;
                }
            }
            return false;
        }

        private boolean takeCommand() {
            Kind kind = kindHere();
            if (kind == null) {
                return false;
            }
            kinds[commands] = kind;
            valuesTaken = 0;
            for (int part = 0; part < kind.form.length(); part++) {
                if (!takePart(kind.form.charAt(part))) {
                    return false;
                }
            }
            return true;
        }

        /** No two keywords begin alike, so the first letter tells the command. */
        private Kind kindHere() {
            for (Kind kind : KINDS) {
                if (isHere(kind.form.charAt(0))) {
                    return kind;
                }
            }
            return null;
        }

        private boolean takePart(char part) {
            switch (part) {
                case 'N':
                    return takeNumber();
                case 'D':
                    return takeDigit(1);
                case 'W':
                    return takeDigit(take('-') ? -1 : 1);
                case 'L':
                    return takeLetter();
                default:
                    return take(part);
            }
        }

        private boolean isHere(char character) {
            return place < length && text[place] == character;
        }

        private boolean isBetween(char first, char last) {
            return place < length && text[place] >= first && text[place] <= last;
        }

        private boolean take(char character) {
            if (!isHere(character)) {
                return false;
            }
            place++;
            return true;
        }

        private boolean takeDigit(int sign) {
            if (!isBetween('0', '9')) {
                return false;
            }
            return addValue(sign * (text[place++] - '0'));
        }

        private boolean takeNumber() {
            if (!isBetween('0', '9')) {
                return false;
            }
            int number = text[place++] - '0';
            if (isBetween('0', '9')) {
                number = 10 * number + text[place++] - '0';
            }
            return addValue(number);
        }

        private boolean takeLetter() {
            if (!isBetween(FIRST_LETTER, (char) (FIRST_LETTER + LETTERS - 1))) {
                return false;
            }
            return addValue(text[place++]);
        }

        private boolean addValue(int value) {
            int slot = commands * MOST_VALUES + valuesTaken;
            if (slot >= values.length) {
                return false;
            }
            values[slot] = value;
            valuesTaken++;
            return true;
        }
    }

    /** The longest output is a relay of eight towers with its delay of three digits. */
    private static final class Output {
        private static final int CAPACITY = 32;
        final char[] text = new char[CAPACITY];
        int length = 0;

        void clear() {
            length = 0;
        }

        void add(char character) {
            if (length < CAPACITY) {
                text[length++] = character;
            }
        }

        void addNumber(int number) {
            if (number >= 100) {
                add((char) ('0' + number / 100));
            }
            if (number >= 10) {
                add((char) ('0' + number / 10 % 10));
            }
            add((char) ('0' + number % 10));
        }
    }
}
