import java.lang.reflect.InvocationTargetException;
import java.lang.reflect.Method;
import java.util.ArrayList;
import java.util.List;
import java.util.Map;
import java.util.Random;
import java.util.TreeMap;

/** Random calls on SmokeRelay and on PlainRow; both must answer alike. The seeds are written down, so runs repeat. */
final class RandomTest {
    private static final int RUNS = 400;
    /** What an object answers to later calls is free. */
    private static final int CALLS = 512;
    /**
     * How often a call is made, its name and its arguments: p position, h height, t tower, m mood, k rank, recency or
     * place, w wind, l letter, s pattern, i index, c any character.
     */
    private static final String[] MEMBERS = {
        "8 setGround ph", "7 addTower phm", "5 setMood tm", "1 ground p", "1 towerCount ", "2 positionOf t", "2 eye t",
        "2 mood t", "2 towerAt p", "2 towerByEye k", "3 canSee tt", "3 canSeeBySlopes tt", "3 seesPosition tp",
        "2 seenPositions t", "2 watchersOf p", "1 fewestWatchers ", "1 fewestWatchersByRecursion ", "4 setWind w",
        "1 wind ", "3 delay tt", "3 relayDelay tt", "3 relayDelayByTable tt", "3 relayLength tt", "5 relayTower ttk",
        "2 groupCount ", "1 pattern l", "2 read s", "2 readBySearch s", "1 wrongSmokes s", "3 nextPattern tl",
        "25 send ttl", "4 wouldBeRefused ttl", "3 count t", "3 logLength t", "3 logLetter tk", "2 sent l",
        "2 bestCost ", "2 bestCostByRows ", "2 refusalReason ", "2 refusalDetail ", "1 meanEye ", "1 calmFraction ",
        "4 writeTower t", "4 writeRelay tt", "1 writePattern s", "9 outputCharacter i", "1 isConsistent ",
        "1 feed c", "1 execute ", "1 errorPosition ", "1 failedCommand ", "7 undo ", "2 undoCount ", "1 save ",
        "1 restore "
    };

    private final Random random;
    private final int strangeness;
    private final SmokeRelay relay = new SmokeRelay();
    private final PlainRow plain = new PlainRow();
    private final StringBuilder history = new StringBuilder();
    private int calls = 0;
    private int wrong = 0;

    private RandomTest(int seed) {
        random = new Random(seed);
        strangeness = seed % 2 == 0 ? 40 : 12;
    }

    public static void main(String[] arguments) throws IllegalAccessException {
        Map<String, Method> tested = methodsOf(SmokeRelay.class);
        Map<String, Method> due = methodsOf(PlainRow.class);
        Check.dueText("members", due.keySet().toString(), tested.keySet().toString());
        Check.due("members", MEMBERS.length, tested.size());
        List<String> draw = new ArrayList<>();
        for (String member : MEMBERS) {
            for (int time = Integer.parseInt(member.split(" ")[0]); time > 0; time--) {
                draw.add(member.substring(member.indexOf(' ') + 1));
            }
        }
        for (int seed = 0; seed < RUNS; seed++) {
            new RandomTest(seed).run(seed, draw, tested, due);
        }
        Check.finish("RandomTest");
    }

    private static Map<String, Method> methodsOf(Class<?> kind) {
        Map<String, Method> methods = new TreeMap<>();
        for (Method method : kind.getMethods()) {
            if (method.getDeclaringClass() == kind) {
                methods.put(method.getName(), method);
            }
        }
        return methods;
    }

    private void run(int seed, List<String> draw, Map<String, Method> tested, Map<String, Method> due)
            throws IllegalAccessException {
        while (calls < CALLS && wrong == 0) {
            String text = random.nextInt(25) == 0 ? text() : "";
            if (!text.isEmpty() && calls + text.length() < CALLS) {
                for (char character : text.toCharArray()) {
                    call(tested.get("feed"), due.get("feed"), character);
                }
                call(tested.get("execute"), due.get("execute"));
                continue;
            }
            String[] member = draw.get(random.nextInt(draw.size())).split(" ");
            String kinds = member.length > 1 ? member[1] : "";
            Object[] values = new Object[kinds.length()];
            for (int place = 0; place < values.length; place++) {
                values[place] = argument(kinds.charAt(place));
            }
            call(tested.get(member[0]), due.get(member[0]), values);
        }
        Check.dueText("random run " + seed + (wrong == 0 ? "" : history.toString()), wrong + " wrong", "0 wrong");
    }

    private void call(Method tested, Method due, Object... values) throws IllegalAccessException {
        calls++;
        String got = answer(tested, relay, values);
        String want = answer(due, plain, values);
        history.append("\n  ").append(tested.getName()).append(List.of(values)).append(" = ").append(got);
        if (!got.equals(want)) {
            history.append(", due is ").append(want);
            wrong++;
        }
    }

    private static String answer(Method method, Object target, Object[] values) throws IllegalAccessException {
        try {
            return String.valueOf(method.invoke(target, values));
        } catch (InvocationTargetException e) {
            return "throws." + e.getCause().getClass().getName();
        }
    }

    private Object argument(char kind) {
        boolean strange = random.nextInt(strangeness) == 0;
        int towers = Math.max(1, plain.towerCount());
        switch (kind) {
            case 'p':
                return strange ? strangeNumber(31) : random.nextInt(32);
            case 'h':
                return strange ? strangeNumber(9) : random.nextInt(3) > 0 ? 1 + random.nextInt(4) : random.nextInt(10);
            case 't':
                return strange ? strangeNumber(towers - 1) : random.nextInt(towers);
            case 'm':
                return strange ? strangeNumber(3) : random.nextInt(4);
            case 'k':
                return strange ? strangeNumber(7) : random.nextInt(4);
            case 'w':
                return strange ? strangeNumber(9) : random.nextInt(19) - 9;
            case 's':
                return strange ? strangeNumber(255) : random.nextInt(256);
            case 'i':
                return strange ? strangeNumber(15) : random.nextInt(12);
            case 'c':
                return (char) random.nextInt(65536);
            default:
                return strange ? (char) random.nextInt(256) : (char) ('a' + random.nextInt(16));
        }
    }

    private int strangeNumber(int last) {
        int[] numbers = {-1, last, last + 1, 0, -last, -last - 1, Integer.MAX_VALUE, Integer.MIN_VALUE, 1000};
        return numbers[random.nextInt(numbers.length)];
    }

    private String text() {
        StringBuilder text = new StringBuilder();
        for (int command = random.nextInt(4); command >= 0; command--) {
            text.append(text.length() == 0 ? "" : ";").append(command());
        }
        if (random.nextInt(3) == 0) {
            garble(text);
        }
        return text.toString();
    }

    private void garble(StringBuilder text) {
        String signs = "gtmws *+!->:;0123456789apq\u00e9\u0663";
        int place = random.nextInt(text.length());
        char sign = signs.charAt(random.nextInt(signs.length()));
        switch (random.nextInt(4)) {
            case 0 -> text.setCharAt(place, sign);
            case 1 -> text.insert(place, sign);
            case 2 -> text.deleteCharAt(place);
            default -> text.setLength(place);
        }
    }

    private String command() {
        int tower = random.nextInt(Math.max(1, plain.towerCount()) + (random.nextInt(6) == 0 ? 1 : 0)) % 10;
        int other = random.nextInt(Math.max(1, plain.towerCount()));
        int position = random.nextInt(random.nextInt(8) == 0 ? 100 : 32);
        int mood = random.nextInt(random.nextInt(5) == 0 ? 9 : 4);
        String number = random.nextBoolean() ? String.valueOf(position) : String.format("%02d", position);
        return switch (random.nextInt(6)) {
            case 0 -> "ground " + number + "*" + random.nextInt(10);
            case 1 -> "tower " + number + "+" + random.nextInt(10) + "!" + mood;
            case 2 -> "mood " + tower + "!" + mood;
            case 3 -> "wind " + (random.nextBoolean() ? "-" : "") + random.nextInt(10);
            default -> "send " + tower + ">" + other + ":" + (char) ('a' + random.nextInt(16));
        };
    }
}
