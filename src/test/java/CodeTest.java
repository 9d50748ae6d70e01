import java.util.NoSuchElementException;

/** Promises 37 to 39 and 42 to 48: codes, statistics and output. */
final class CodeTest {
    public static void main(String[] arguments) {
        costs();
        costOfManyLetters();
        means();
        writtenTowers();
        writtenRelays();
        writtenPatterns();
        outputThatIsWrong();
        consistency();
        Check.finish("CodeTest");
    }

    /** Sends each letter to its own tower as often as told, in one change or several. */
    private static SmokeRelay afterSendings(int... times) {
        SmokeRelay relay = new SmokeRelay();
        relay.addTower(0, 1, 0);
        for (int value = 0; value < times.length; value++) {
            for (int time = 0; time < times[value]; time++) {
                relay.send(0, 0, (char) ('a' + value));
            }
            Check.due("sent", relay.sent((char) ('a' + value)), times[value]);
        }
        return relay;
    }

    private static void dueCost(int want, int... times) {
        SmokeRelay relay = afterSendings(times);
        Check.due("bestCost", relay.bestCost(), want);
        Check.due("bestCostByRows", relay.bestCostByRows(), want);
        Check.due("bestCost again", relay.bestCost(), want);
        Check.due("bestCostByRows again", relay.bestCostByRows(), want);
    }

    private static void costs() {
        dueCost(0);
        dueCost(1, 1);
        dueCost(7, 0, 0, 7);
        dueCost(8, 7, 0, 1);
        dueCost(5, 1, 1, 1);
        dueCost(8, 1, 1, 1, 1);
        dueCost(16, 4, 3, 1, 1);
        dueCost(14, 1, 2, 1, 4);
        dueCost(49, 4, 3, 2, 8, 5);
        dueCost(86, 5, 1, 1, 2, 3, 8, 21);
    }

    private static void costOfManyLetters() {
        dueCost(64, 1, 1, 1, 1, 1, 1, 1, 1, 1, 1, 1, 1, 1, 1, 1, 1);
        dueCost(59, 1, 1, 1, 1, 1, 1, 1, 1, 1, 1, 1, 1, 1, 1, 1);
        dueCost(516, 16, 15, 14, 13, 12, 11, 10, 9, 8, 7, 6, 5, 4, 3, 2, 1);
    }

    private static void means() {
        SmokeRelay relay = new SmokeRelay();
        Check.fails("meanEye without towers", ArithmeticException.class, relay::meanEye);
        Check.fails("calmFraction without towers", ArithmeticException.class, relay::calmFraction);
        relay.addTower(0, 1, 1);
        Check.dueExactly("mean of one", relay.meanEye(), 1.0);
        Check.dueExactly("no calm one", relay.calmFraction(), 0.0);
        relay.setGround(5, 9);
        relay.setGround(0, 3);
        relay.addTower(5, 2, 0);
        relay.addTower(6, 1, 0);
        Check.dueExactly("mean of three", relay.meanEye(), 16.0 / 3.0);
        Check.dueExactly("two of three are calm", relay.calmFraction(), 2.0f / 3.0f);
        relay.setMood(0, 0);
        Check.dueExactly("all are calm", relay.calmFraction(), 1.0);
        for (int tower = 3; tower < 8; tower++) {
            relay.addTower(4 * tower, 1, 1);
        }
        Check.dueExactly("mean of eight", relay.meanEye(), 21.0 / 8.0);
        Check.dueExactly("three of eight are calm", relay.calmFraction(), 3.0f / 8.0f);
    }

    private static void writtenTowers() {
        SmokeRelay relay = new SmokeRelay();
        relay.addTower(12, 3, 1);
        relay.addTower(0, 9, 0);
        Check.dueText("tower without a log", Check.output(relay, relay.writeTower(0)), "12+3!1");
        relay.setGround(0, 4);
        relay.send(1, 0, 'k');
        Check.dueText("tower with one letter", Check.output(relay, relay.writeTower(0)), "12+3!1:k");
        relay.send(1, 0, 'a');
        relay.send(1, 0, 'b');
        Check.dueText("tower with a log", Check.output(relay, relay.writeTower(0)), "12+3!1:kab");
        for (int value = 0; value < 8; value++) {
            relay.send(1, 0, (char) ('i' + value));
        }
        Check.dueText("tower with a full log", Check.output(relay, relay.writeTower(0)), "12+3!1:ijklmnop");
        relay.addTower(10, 1, 3);
        Check.dueText("tower at 10", Check.output(relay, relay.writeTower(2)), "10+1!3");
        relay.undo();
        Check.dueText("tower at 0", Check.output(relay, relay.writeTower(1)), "0+9!0");
        for (int tower : new int[] {-1, 2, Integer.MIN_VALUE, Integer.MAX_VALUE}) {
            Check.fails("writeTower", IndexOutOfBoundsException.class, () -> relay.writeTower(tower));
        }
        Check.dueText("output after failures", Check.output(relay, 5), "0+9!0");
    }

    private static void writtenRelays() {
        SmokeRelay relay = new SmokeRelay();
        int[] order = {3, 1, 0, 2, 5, 4, 7, 6};
        for (int tower = 0; tower < 8; tower++) {
            relay.addTower(order[tower] * 4, 1, 0);
        }
        relay.setWind(-3);
        Check.dueText("long relay", Check.output(relay, relay.writeRelay(6, 2)), "6>7>4>5>0>3>1>2=7");
        Check.dueText("against the wind", Check.output(relay, relay.writeRelay(2, 6)), "2>6=31");
        Check.dueText("to itself", Check.output(relay, relay.writeRelay(3, 3)), "3=0");
        relay.setGround(2, 9);
        Check.fails("no relay", NoSuchElementException.class, () -> relay.writeRelay(0, 2));
        Check.fails("no tower", IndexOutOfBoundsException.class, () -> relay.writeRelay(0, 8));
        Check.fails("no tower", IndexOutOfBoundsException.class, () -> relay.writeRelay(-1, 0));
        Check.dueText("output after failures", Check.output(relay, 3), "3=0");
    }

    private static void writtenPatterns() {
        SmokeRelay relay = new SmokeRelay();
        Check.due("writePattern", relay.writePattern(0), 8);
        Check.dueText("no smokes", Check.output(relay, 8), "........");
        Check.dueText("all smokes", Check.output(relay, relay.writePattern(255)), "********");
        Check.dueText("smokes 0, 1 and 7", Check.output(relay, relay.writePattern(131)), "**.....*");
        for (int pattern : new int[] {-1, 256, Integer.MIN_VALUE, Integer.MAX_VALUE}) {
            Check.fails("writePattern", IllegalArgumentException.class, () -> relay.writePattern(pattern));
        }
        Check.dueText("output after failures", Check.output(relay, 8), "**.....*");
    }

    private static void outputThatIsWrong() {
        SmokeRelay relay = new SmokeRelay();
        Check.fails("empty output", IndexOutOfBoundsException.class, () -> relay.outputCharacter(0));
        relay.addTower(3, 1, 0);
        relay.writePattern(9);
        int length = relay.writeTower(0);
        Check.due("length of a tower", length, 5);
        for (int index : new int[] {-1, 5, 7, Integer.MIN_VALUE, Integer.MAX_VALUE}) {
            Check.fails("outputCharacter", IndexOutOfBoundsException.class, () -> relay.outputCharacter(index));
        }
        relay.undo();
        Check.dueText("undo leaves the output", Check.output(relay, length), "3+1!0");
    }

    private static void consistency() {
        SmokeRelay relay = afterSendings(3, 0, 2, 5);
        Check.due("consistent with one tower", relay.isConsistent(), true);
        relay.addTower(9, 2, 3);
        relay.addTower(20, 2, 3);
        relay.setGround(15, 9);
        relay.setWind(-4);
        Check.due("consistent without some relays", relay.isConsistent(), true);
        Check.due("isConsistent changes nothing", relay.undoCount(), 8);
    }
}
