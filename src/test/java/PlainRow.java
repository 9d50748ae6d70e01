import java.util.ArrayDeque;
import java.util.ArrayList;
import java.util.Arrays;
import java.util.Comparator;
import java.util.Deque;
import java.util.List;
import java.util.NoSuchElementException;
import java.util.PriorityQueue;
import java.util.regex.Matcher;
import java.util.regex.Pattern;

/**
 * The document once more, by slow and plain ways with the whole Java library: all relays and all watches are tried, and
 * texts are matched with a regular expression. The random test compares SmokeRelay with it.
 */
public final class PlainRow {
    private static final Pattern COMMAND = Pattern.compile("ground ([0-9]{1,2})\\*([0-9])"
            + "|tower ([0-9]{1,2})\\+([0-9])!([0-9])|mood ([0-9])!([0-9])|wind (-?[0-9])"
            + "|send ([0-9])>([0-9]):([a-p])");
    private static final Pattern TEXT = Pattern.compile("(" + COMMAND + ")(;(" + COMMAND + "))*");

    private static final class Tower {
        int position;
        int height;
        int mood;
        int count;
        String log = "";

        Tower copy() {
            Tower copy = new Tower();
            copy.position = position;
            copy.height = height;
            copy.mood = mood;
            copy.count = count;
            copy.log = log;
            return copy;
        }
    }

    private static final class State {
        int[] ground = new int[32];
        List<Tower> towers = new ArrayList<>();
        int wind;
        int[] sent = new int[16];

        State copy() {
            State copy = new State();
            copy.ground = ground.clone();
            for (Tower tower : towers) {
                copy.towers.add(tower.copy());
            }
            copy.wind = wind;
            copy.sent = sent.clone();
            return copy;
        }
    }

    private State state = new State();
    private State saved;
    private final Deque<State> past = new ArrayDeque<>();
    private String input = "";
    private String output = "";
    private Integer reason;
    private Integer detail;
    private Integer errorPosition;
    private Integer failedCommand;

    private static void argument(boolean right) {
        if (!right) {
            throw new IllegalArgumentException();
        }
    }

    private static void exists(boolean right) {
        if (!right) {
            throw new NoSuchElementException();
        }
    }

    private static int kept(Integer value) {
        exists(value != null);
        return value;
    }

    private Tower at(int tower) {
        if (tower < 0 || tower >= state.towers.size()) {
            throw new IndexOutOfBoundsException();
        }
        return state.towers.get(tower);
    }

    private void changed(State before) {
        past.addLast(before);
        if (past.size() > 8) {
            past.removeFirst();
        }
    }

    public int setGround(int position, int height) {
        argument(position >= 0 && position <= 31 && height >= 0 && height <= 9);
        changed(state.copy());
        int previous = state.ground[position];
        state.ground[position] = height;
        return previous;
    }

    public int addTower(int position, int height, int mood) {
        argument(position >= 0 && position <= 31 && height >= 1 && height <= 9 && mood >= 0 && mood <= 3);
        if (state.towers.size() == 8 || state.towers.stream().anyMatch(tower -> tower.position == position)) {
            throw new IllegalStateException();
        }
        changed(state.copy());
        Tower tower = new Tower();
        tower.position = position;
        tower.height = height;
        tower.mood = mood;
        state.towers.add(tower);
        return state.towers.size() - 1;
    }

    public int setMood(int tower, int mood) {
        int previous = at(tower).mood;
        argument(mood >= 0 && mood <= 3);
        changed(state.copy());
        at(tower).mood = mood;
        return previous;
    }

    public int ground(int position) {
        argument(position >= 0 && position <= 31);
        return state.ground[position];
    }

    public int towerCount() {
        return state.towers.size();
    }

    public int positionOf(int tower) {
        return at(tower).position;
    }

    public int eye(int tower) {
        return at(tower).height + state.ground[at(tower).position];
    }

    public int mood(int tower) {
        return at(tower).mood;
    }

    public int towerAt(int position) {
        argument(position >= 0 && position <= 31);
        for (Tower tower : state.towers) {
            if (tower.position == position) {
                return state.towers.indexOf(tower);
            }
        }
        throw new NoSuchElementException();
    }

    public int towerByEye(int rank) {
        exists(rank >= 0 && rank < state.towers.size());
        List<Integer> order = new ArrayList<>();
        for (int tower = 0; tower < state.towers.size(); tower++) {
            order.add(tower);
        }
        order.sort(Comparator.comparing((Integer tower) -> -eye(tower)).thenComparing(tower -> tower));
        return order.get(rank);
    }

    /** The line at x, as a fraction over the distance, against the ground there. */
    private boolean clear(int x1, int y1, int x2, int y2) {
        for (int x = Math.min(x1, x2) + 1; x < Math.max(x1, x2); x++) {
            int above = (y1 - state.ground[x]) * (x2 - x1) + (y2 - y1) * (x - x1);
            if (x2 > x1 ? above <= 0 : above >= 0) {
                return false;
            }
        }
        return true;
    }

    public boolean canSee(int one, int other) {
        Tower from = at(one);
        Tower to = at(other);
        return from != to && clear(from.position, eye(one), to.position, eye(other));
    }

    public boolean canSeeBySlopes(int one, int other) {
        return canSee(one, other);
    }

    public boolean seesPosition(int tower, int position) {
        int from = at(tower).position;
        argument(position >= 0 && position <= 31);
        return clear(from, eye(tower), position, state.ground[position]);
    }

    public int seenPositions(int tower) {
        int seen = 0;
        at(tower);
        for (int position = 0; position < 32; position++) {
            seen += seesPosition(tower, position) ? 1 : 0;
        }
        return seen;
    }

    public int watchersOf(int position) {
        argument(position >= 0 && position <= 31);
        int watchers = 0;
        for (int tower = 0; tower < state.towers.size(); tower++) {
            watchers += seesPosition(tower, position) ? 1 : 0;
        }
        return watchers;
    }

    public int fewestWatchers() {
        int fewest = 8;
        for (int set = 0; set < 1 << state.towers.size(); set++) {
            boolean isWatch = true;
            for (int position = 0; position < 32 && isWatch; position++) {
                boolean seen = false;
                for (int tower = 0; tower < state.towers.size(); tower++) {
                    seen |= (set >> tower & 1) == 1 && seesPosition(tower, position);
                }
                isWatch = seen || watchersOf(position) == 0;
            }
            if (isWatch) {
                fewest = Math.min(fewest, Integer.bitCount(set));
            }
        }
        return fewest;
    }

    public int fewestWatchersByRecursion() {
        return fewestWatchers();
    }

    public int setWind(int wind) {
        argument(wind >= -9 && wind <= 9);
        changed(state.copy());
        int previous = state.wind;
        state.wind = wind;
        return previous;
    }

    public int wind() {
        return state.wind;
    }

    public int delay(int from, int to) {
        exists(canSee(from, to));
        int distance = Math.abs(at(from).position - at(to).position);
        return Math.max(1, at(to).position > at(from).position ? distance - state.wind : distance + state.wind);
    }

    /** The delay, the number of towers and then the towers, each put so that the order of texts is that of relays. */
    private String bestRelay(int from, int to) {
        at(from);
        at(to);
        String[] best = {null};
        extend(String.valueOf(from), 0, to, best);
        exists(best[0] != null);
        return best[0];
    }

    private void extend(String towers, int delay, int to, String[] best) {
        int last = towers.charAt(towers.length() - 1) - '0';
        if (last == to) {
            String told = String.format("%04d%d%s", delay, towers.length(), towers);
            if (best[0] == null || told.compareTo(best[0]) < 0) {
                best[0] = told;
            }
            return;
        }
        if (best[0] != null && delay > Integer.parseInt(best[0].substring(0, 4))) {
            return;
        }
        for (int next = 0; next < state.towers.size(); next++) {
            if (towers.indexOf('0' + next) < 0 && canSee(last, next)) {
                extend(towers + next, delay + delay(last, next), to, best);
            }
        }
    }

    public int relayDelay(int from, int to) {
        return Integer.parseInt(bestRelay(from, to).substring(0, 4));
    }

    public int relayDelayByTable(int from, int to) {
        return relayDelay(from, to);
    }

    public int relayLength(int from, int to) {
        return bestRelay(from, to).length() - 5;
    }

    public int relayTower(int from, int to, int place) {
        String towers = bestRelay(from, to).substring(5);
        exists(place >= 0 && place < towers.length());
        return towers.charAt(place) - '0';
    }

    public int groupCount() {
        int[] group = new int[state.towers.size()];
        for (int tower = 0; tower < group.length; tower++) {
            group[tower] = tower;
        }
        for (int one = 0; one < group.length; one++) {
            for (int other = 0; other < group.length; other++) {
                if (canSee(one, other)) {
                    int old = group[other];
                    int kept = group[one];
                    Arrays.setAll(group, tower -> group[tower] == old ? kept : group[tower]);
                }
            }
        }
        return (int) Arrays.stream(group).distinct().count();
    }

    public int pattern(char letter) {
        argument(letter >= 'a' && letter <= 'p');
        for (int pattern = 0; pattern < 256; pattern++) {
            int value = (pattern & 8) / 8 + (pattern & 32) / 16 + (pattern & 64) / 16 + (pattern & 128) / 16;
            if (value == letter - 'a' && even(pattern, 1, 3, 5, 7) && even(pattern, 2, 3, 6, 7)
                    && even(pattern, 4, 5, 6, 7) && even(pattern, 0, 1, 2, 3, 4, 5, 6, 7)) {
                return pattern;
            }
        }
        throw new AssertionError();
    }

    private static boolean even(int pattern, int... smokes) {
        int burning = 0;
        for (int smoke : smokes) {
            burning += pattern >> smoke & 1;
        }
        return burning % 2 == 0;
    }

    public char read(int pattern) {
        argument(pattern >= 0 && pattern <= 255);
        for (char letter = 'a'; letter <= 'p'; letter++) {
            if (Integer.bitCount(pattern(letter) ^ pattern) <= 1) {
                return letter;
            }
        }
        throw new NoSuchElementException();
    }

    public char readBySearch(int pattern) {
        return read(pattern);
    }

    public int wrongSmokes(int pattern) {
        argument(pattern >= 0 && pattern <= 255);
        int wrong = 8;
        for (char letter = 'a'; letter <= 'p'; letter++) {
            wrong = Math.min(wrong, Integer.bitCount(pattern(letter) ^ pattern));
        }
        return wrong;
    }

    public int nextPattern(int tower, char letter) {
        Tower sender = at(tower);
        int pattern = pattern(letter);
        int c = sender.count;
        if (sender.mood == 1 && c % 3 == 2 || sender.mood >= 2) {
            pattern ^= (int) Math.pow(2, c % 8);
        }
        if (sender.mood == 3 && c % 2 == 1) {
            pattern ^= (int) Math.pow(2, (c + 3) % 8);
        }
        return pattern;
    }

    private int refusal(int from, int to, char letter) {
        at(from);
        at(to);
        pattern(letter);
        String towers;
        try {
            towers = bestRelay(from, to).substring(5);
        } catch (NoSuchElementException e) {
            return 10 + from;
        }
        for (int place = 1; place < towers.length(); place++) {
            if (wrongSmokes(nextPattern(towers.charAt(place - 1) - '0', letter)) > 1) {
                return 20 + towers.charAt(place) - '0';
            }
        }
        return 0;
    }

    public int send(int from, int to, char letter) {
        int refusal = refusal(from, to, letter);
        if (refusal > 0) {
            reason = refusal / 10;
            detail = refusal % 10;
            throw new UnsupportedOperationException();
        }
        State before = state.copy();
        String relay = bestRelay(from, to);
        String towers = relay.substring(5);
        for (int place = 1; place < towers.length(); place++) {
            Tower sender = at(towers.charAt(place - 1) - '0');
            Tower reader = at(towers.charAt(place) - '0');
            reader.log += read(nextPattern(towers.charAt(place - 1) - '0', letter));
            reader.log = reader.log.substring(Math.max(0, reader.log.length() - 8));
            sender.count++;
        }
        state.sent[letter - 'a']++;
        changed(before);
        return Integer.parseInt(relay.substring(0, 4));
    }

    public boolean wouldBeRefused(int from, int to, char letter) {
        return refusal(from, to, letter) > 0;
    }

    public int count(int tower) {
        return at(tower).count;
    }

    public int logLength(int tower) {
        return at(tower).log.length();
    }

    public char logLetter(int tower, int recency) {
        String log = at(tower).log;
        exists(recency >= 0 && recency < log.length());
        return log.charAt(log.length() - 1 - recency);
    }

    public int sent(char letter) {
        argument(letter >= 'a' && letter <= 'p');
        return state.sent[letter - 'a'];
    }

    public int bestCost() {
        PriorityQueue<Integer> groups = new PriorityQueue<>();
        for (int times : state.sent) {
            if (times > 0) {
                groups.add(times);
            }
        }
        if (groups.size() == 1) {
            return groups.remove();
        }
        int cost = 0;
        while (groups.size() > 1) {
            int sum = groups.remove() + groups.remove();
            groups.add(sum);
            cost += sum;
        }
        return cost;
    }

    public int bestCostByRows() {
        return bestCost();
    }

    public int refusalReason() {
        return kept(reason);
    }

    public int refusalDetail() {
        return kept(detail);
    }

    public double meanEye() {
        if (state.towers.isEmpty()) {
            throw new ArithmeticException();
        }
        double sum = 0;
        for (int tower = 0; tower < state.towers.size(); tower++) {
            sum += eye(tower);
        }
        return sum / state.towers.size();
    }

    public float calmFraction() {
        if (state.towers.isEmpty()) {
            throw new ArithmeticException();
        }
        return (float) state.towers.stream().filter(tower -> tower.mood == 0).count() / state.towers.size();
    }

    public int writeTower(int tower) {
        Tower told = at(tower);
        output = told.position + "+" + told.height + "!" + told.mood + (told.log.isEmpty() ? "" : ":" + told.log);
        return output.length();
    }

    public int writeRelay(int from, int to) {
        String relay = bestRelay(from, to);
        output = String.join(">", relay.substring(5).split("")) + "=" + Integer.parseInt(relay.substring(0, 4));
        return output.length();
    }

    public int writePattern(int pattern) {
        argument(pattern >= 0 && pattern <= 255);
        String digits = Integer.toBinaryString(256 + pattern).substring(1);
        output = new StringBuilder(digits).reverse().toString().replace('1', '*').replace('0', '.');
        return output.length();
    }

    public char outputCharacter(int index) {
        if (index < 0 || index >= output.length()) {
            throw new IndexOutOfBoundsException();
        }
        return output.charAt(index);
    }

    public boolean isConsistent() {
        return true;
    }

    public int feed(char character) {
        if (input.length() == 60) {
            throw new IllegalStateException();
        }
        input += character;
        return input.length();
    }

    public int execute() {
        String text = input;
        input = "";
        if (!TEXT.matcher(text).matches()) {
            errorPosition = longestBeginning(text);
            throw new IllegalArgumentException();
        }
        State before = state.copy();
        List<State> pastBefore = new ArrayList<>(past);
        String[] commands = text.split(";");
        for (int command = 0; command < commands.length; command++) {
            boolean done = run(commands[command]);
            past.clear();
            past.addAll(pastBefore);
            if (!done) {
                state = before;
                failedCommand = command;
                throw new UnsupportedOperationException();
            }
        }
        changed(before);
        return commands.length;
    }

    private static int longestBeginning(String text) {
        for (int length = text.length(); length > 0; length--) {
            Matcher matcher = TEXT.matcher(text.substring(0, length));
            if (matcher.matches() || matcher.hitEnd()) {
                return length;
            }
        }
        return 0;
    }

    private boolean run(String command) {
        String[] parts = command.replaceFirst(" ", ",").replaceAll("[*+!>:]", ",").split(",");
        int[] values = new int[parts.length];
        for (int part = 1; part < parts.length; part++) {
            values[part] = parts[part].matches("[a-p]") ? parts[part].charAt(0) : Integer.parseInt(parts[part]);
        }
        try {
            switch (parts[0]) {
                case "ground" -> setGround(values[1], values[2]);
                case "tower" -> addTower(values[1], values[2], values[3]);
                case "mood" -> setMood(values[1], values[2]);
                case "wind" -> setWind(values[1]);
                default -> send(values[1], values[2], (char) values[3]);
            }
            return true;
        } catch (RuntimeException e) {
            return false;
        }
    }

    public int errorPosition() {
        return kept(errorPosition);
    }

    public int failedCommand() {
        return kept(failedCommand);
    }

    public int undo() {
        if (past.isEmpty()) {
            throw new IllegalStateException();
        }
        state = past.removeLast();
        return past.size();
    }

    public int undoCount() {
        return past.size();
    }

    public int save() {
        saved = state.copy();
        return state.towers.size();
    }

    public int restore() {
        if (saved == null) {
            throw new IllegalStateException();
        }
        state = saved.copy();
        past.clear();
        return state.towers.size();
    }
}
