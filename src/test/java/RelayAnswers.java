import java.util.ArrayList;
import java.util.List;
import java.util.NoSuchElementException;

/** The ordinary answers of promises 19 to 26: wind and relays. */
final class RelayAnswers {
    /** Rows of towers, each with relays that are due on it, told as writeRelay tells them. */
    private record Sample(SmokeRelay relay, String... due) {
    }

    private interface RelayTest {
        void of(SmokeRelay relay, int delay, int... towers);
    }

    private RelayAnswers() {
    }

    static void test() {
        testWind();
        testRelays();
        Sentences.under("Promise 26");
        Sentences.holds("Returns the number of groups.", RelayAnswers::groups);
    }

    private static void testWind() {
        Sentences.under("Promise 19");
        Sentences.holds("Sets the wind.", RelayAnswers::setsTheWind);
        Sentences.holds("Returns the previous wind.", RelayAnswers::previousWind);
        Sentences.under("Promise 20");
        Sentences.holds("Returns the wind.", RelayAnswers::wind);
        Sentences.under("Promise 21");
        Sentences.hold("Returns the delay from a tower to another one that it sees.", "Returns the delay.",
                RelayAnswers::delays);
    }

    private static void testRelays() {
        Sentences.under("Terms");
        Sentences.holds("Its delay is the sum of the delays from each tower to the next one.",
                () -> eachSample(RelayAnswers::dueSum));
        Sentences.under("Promise 22");
        Sentences.hold("Returns the delay of the fastest relay, computed by settling the nearest tower again and"
                + " again.", "Returns the delay.", () -> eachSample((relay, delay, towers) -> Check.due("relayDelay",
                        relay.relayDelay(towers[0], towers[towers.length - 1]), delay)));
        Sentences.under("Promise 23");
        Sentences.hold("Returns the same as relayDelay, but is computed with a table of all pairs of towers.",
                "Returns the delay.", () -> eachSample((relay, delay, towers) -> Check.due("relayDelayByTable",
                        relay.relayDelayByTable(towers[0], towers[towers.length - 1]), delay)));
        Sentences.under("Promise 24");
        Sentences.hold("Returns the number of towers of the fastest relay.", "Returns the number of towers.",
                () -> eachSample((relay, delay, towers) -> Check.due("relayLength",
                        relay.relayLength(towers[0], towers[towers.length - 1]), towers.length)));
        Sentences.under("Promise 25");
        Sentences.hold("Returns a tower of the fastest relay.", "Returns the index of the tower.",
                () -> eachSample(RelayAnswers::dueTowers));
    }

    private static void setsTheWind() {
        SmokeRelay relay = Bounds.rowOf(5, 15);
        relay.setWind(4);
        Check.due("wind", relay.wind(), 4);
        Check.due("delay with the wind", relay.delay(0, 1), 6);
        relay.setWind(-3);
        Check.due("wind", relay.wind(), -3);
        Check.due("delay against the wind", relay.delay(0, 1), 13);
        Check.due("changes", relay.undoCount(), 4);
        Check.due("wind of another object", new SmokeRelay().wind(), 0);
    }

    private static void previousWind() {
        SmokeRelay relay = new SmokeRelay();
        Check.due("setWind(7)", relay.setWind(7), 0);
        Check.due("setWind(-9)", relay.setWind(-9), 7);
        Check.due("setWind(-9) again", relay.setWind(-9), -9);
        relay.undo();
        relay.undo();
        Check.due("setWind(1) after undo", relay.setWind(1), 7);
    }

    private static void wind() {
        SmokeRelay relay = new SmokeRelay();
        for (int wind : new int[] {3, -8, 5, 0}) {
            relay.setWind(wind);
            Check.due("wind", relay.wind(), wind);
        }
        relay.undo();
        Check.due("wind after undo", relay.wind(), 5);
    }

    private static void delays() {
        SmokeRelay relay = Bounds.rowOf(20, 12, 25);
        Check.due("delay without wind", relay.delay(0, 1), 8);
        relay.setWind(7);
        Check.due("delay with the wind", relay.delay(1, 0), 1);
        Check.due("delay against the wind", relay.delay(0, 1), 15);
        Check.due("delay further with the wind", relay.delay(1, 2), 6);
        Check.due("delay further against the wind", relay.delay(2, 1), 20);
        relay.setWind(-2);
        Check.due("delay with the other wind", relay.delay(0, 1), 6);
        Check.due("delay against the other wind", relay.delay(1, 0), 10);
    }

    private static void eachSample(RelayTest test) {
        for (Sample sample : samples()) {
            for (String due : sample.due()) {
                String towers = due.substring(0, due.indexOf('=')).replace(">", "");
                int[] indices = towers.chars().map(digit -> digit - '0').toArray();
                test.of(sample.relay(), Integer.parseInt(due.substring(due.indexOf('=') + 1)), indices);
            }
        }
    }

    private static void dueSum(SmokeRelay relay, int delay, int... towers) {
        int sum = 0;
        for (int place = 1; place < towers.length; place++) {
            sum += relay.delay(towers[place - 1], towers[place]);
        }
        Check.due("the sum of the delays", sum, delay);
        Check.due("relayDelay", relay.relayDelay(towers[0], towers[towers.length - 1]), sum);
        Check.due("relayDelayByTable", relay.relayDelayByTable(towers[0], towers[towers.length - 1]), sum);
    }

    private static void dueTowers(SmokeRelay relay, int delay, int... towers) {
        int last = towers[towers.length - 1];
        for (int place = 0; place < towers.length; place++) {
            Check.due("relayTower at " + place, relay.relayTower(towers[0], last, place), towers[place]);
        }
        Check.fails("relayTower behind the last", NoSuchElementException.class,
                () -> relay.relayTower(towers[0], last, towers.length));
    }

    private static List<Sample> samples() {
        List<Sample> samples = new ArrayList<>();
        samples.add(new Sample(Bounds.rowOf(0, 4, 8, 12, 16, 20, 24, 28), "0>7=28", "7>0=28", "2>5=12", "3=0"));
        SmokeRelay windy = Bounds.rowOf(0, 4, 8, 12, 16, 20, 24, 28);
        windy.setWind(1);
        samples.add(new Sample(windy, "0>1>2>3>4>5>6>7=21", "7>0=29", "5>2=13", "2>3>4>5=9", "6=0"));
        samples.add(overHills());
        samples.add(smallestIndices());
        samples.addAll(overARidge());
        return samples;
    }

    /** Without wind every way rightwards has the same delay; the direct one has the fewest towers. */
    private static Sample overHills() {
        SmokeRelay relay = Bounds.rowOf(0, 5);
        relay.addTower(10, 9, 0);
        relay.addTower(30, 1, 0);
        relay.setGround(29, 1);
        relay.setGround(4, 1);
        return new Sample(relay, "0>2>3=30", "3>2>0=30", "3>2>1=25", "1>2=5", "0>2=10");
    }

    /** With a strong wind all single steps rightwards take 1, so that only the indices decide. */
    private static Sample smallestIndices() {
        SmokeRelay relay = new SmokeRelay();
        relay.addTower(8, 9, 0);
        relay.addTower(0, 1, 0);
        relay.addTower(6, 9, 0);
        relay.addTower(4, 9, 0);
        relay.addTower(12, 1, 0);
        relay.setGround(2, 2);
        relay.setGround(10, 2);
        relay.setWind(9);
        return new Sample(relay, "1>0>4=2", "4>0>1=30", "3>4=1", "2>4=1");
    }

    /** Two towers in dells see no other one but the tower on the ridge between them, whichever index it has. */
    private static List<Sample> overARidge() {
        List<Sample> samples = new ArrayList<>();
        for (int ridge = 0; ridge < 3; ridge++) {
            SmokeRelay relay = new SmokeRelay();
            for (int tower = 0; tower < 3; tower++) {
                relay.addTower(tower == ridge ? 10 : 6 + 8 * ((tower - ridge + 3) % 3 - 1), 1, 0);
            }
            relay.setGround(10, 9);
            relay.setWind(3);
            int left = (ridge + 1) % 3;
            int right = (ridge + 2) % 3;
            samples.add(new Sample(relay, right + ">" + ridge + ">" + left + "=14",
                    left + ">" + ridge + ">" + right + "=2"));
        }
        return samples;
    }

    private static void groups() {
        SmokeRelay relay = Bounds.rowOf(0, 10, 20, 30);
        Check.due("groups on flat ground", relay.groupCount(), 1);
        relay.setGround(15, 1);
        Check.due("groups on both sides", relay.groupCount(), 2);
        relay.setGround(5, 1);
        Check.due("three groups", relay.groupCount(), 3);
        relay.setGround(25, 9);
        Check.due("four groups", relay.groupCount(), 4);
        relay.setGround(25, 0);
        relay.addTower(14, 9, 0);
        Check.due("groups joined by a tower", relay.groupCount(), 1);
    }
}
