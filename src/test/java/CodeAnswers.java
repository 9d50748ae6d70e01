/** The ordinary answers of promises 38 to 48: codes, statistics and output. */
final class CodeAnswers {
    /** How often the letters from 'a' on were sent. */
    private static final int[][] SENDINGS = {{7}, {0, 0, 3}, {7, 0, 1}, {1, 1, 1}, {4, 3, 1, 1}, {1, 2, 1, 4},
        {4, 3, 2, 8, 5}, {5, 1, 1, 2, 3}, {2, 2, 2, 2, 2, 2}, {1, 1, 2, 3, 5, 8}, {9, 8, 8, 8, 1, 1}, {3, 3, 3, 4, 4}};

    private CodeAnswers() {
    }

    static void test() {
        testCodes();
        testMeans();
        testOutput();
        Sentences.under("Promise 48");
        Sentences.holds("Returns true if it is consistent.", CodeAnswers::consistency);
    }

    private static void testCodes() {
        Sentences.under("Terms");
        Sentences.holds("The cost of a code is the sum, over these letters, of how often the letter was sent,"
                + " multiplied by the length of its word.", CodeAnswers::costsOfGivenWords);
        Sentences.holds("The best code has the smallest cost.", CodeAnswers::smallestCosts);
        Sentences.under("Promise 38");
        Sentences.holds("Returns the cost of the best code, computed by joining the two rarest groups of letters again"
                + " and again.", () -> dueCosts(SmokeRelay::bestCost));
        Sentences.under("Promise 39");
        Sentences.holds("Returns the cost.", () -> dueCosts(SmokeRelay::bestCostByRows));
    }

    private static void testMeans() {
        Sentences.under("Promise 42");
        Sentences.holds("Returns the mean.", CodeAnswers::means);
        Sentences.under("Promise 43");
        Sentences.holds("Returns the fraction.", CodeAnswers::fractions);
    }

    private static void testOutput() {
        Sentences.under("Promise 44");
        Sentences.holds("Example: \"12+3!1:kab\".", CodeAnswers::example);
        Sentences.holds("Returns the length of the output.", CodeAnswers::writtenTowers);
        Sentences.under("Promise 45");
        Sentences.holds("Returns the length of the output.", CodeAnswers::writtenRelays);
        Sentences.under("Promise 46");
        Sentences.holds("Returns the length of the output.", CodeAnswers::writtenPatterns);
        Sentences.under("Promise 47");
        Sentences.holds("Returns the character.", CodeAnswers::characters);
    }

    /** Each letter is sent to its own tower. */
    private static SmokeRelay afterSendings(int... times) {
        SmokeRelay relay = Bounds.rowOf(0);
        for (int value = 0; value < times.length; value++) {
            for (int time = 0; time < times[value]; time++) {
                relay.send(0, 0, (char) ('a' + value));
            }
        }
        return relay;
    }

    private static void dueCost(int want, int... times) {
        SmokeRelay relay = afterSendings(times);
        Check.due("bestCost", relay.bestCost(), want);
        Check.due("bestCostByRows", relay.bestCostByRows(), want);
    }

    private static void costsOfGivenWords() {
        dueCost(4 * 1 + 3 * 2 + 1 * 3 + 1 * 3, 4, 3, 1, 1);
        dueCost(8 * 1 + 2 * 2 + 1 * 2, 2, 0, 8, 1, 0, 0);
        dueCost(21 * 1 + 8 * 2 + 5 * 3 + 3 * 4 + 2 * 5 + 1 * 6 + 1 * 6, 5, 1, 1, 2, 3, 8, 21);
        dueCost(7 * 1, 0, 0, 0, 7);
    }

    /**
     * Tries all lengths of words. Words of these lengths, none the beginning of another, can be had if they leave room
     * for one another: a word takes half of the room for each of its digits.
     */
    private static int cheapest(int[] times, int letter, int room) {
        if (letter == times.length) {
            return 0;
        }
        if (times[letter] == 0) {
            return cheapest(times, letter + 1, room);
        }
        int best = 1000000;
        for (int length = 1; 64 >> length > 0; length++) {
            if (64 >> length <= room) {
                best = Math.min(best, times[letter] * length + cheapest(times, letter + 1, room - (64 >> length)));
            }
        }
        return best;
    }

    private static void smallestCosts() {
        for (int[] times : SENDINGS) {
            dueCost(cheapest(times, 0, 64), times);
        }
    }

    /** Asked twice, since neither way may spoil what it takes the cost from. */
    private static void dueCosts(SightBounds.Question cost) {
        int[][] times = {{1}, {0, 0, 7}, {7, 0, 1}, {1, 1, 1}, {1, 1, 1, 1}, {4, 3, 1, 1}, {1, 2, 1, 4},
            {4, 3, 2, 8, 5}, {5, 1, 1, 2, 3, 8, 21}, {1, 1, 1, 1, 1, 1, 1, 1, 1, 1, 1, 1, 1, 1, 1},
            {16, 15, 14, 13, 12, 11, 10, 9, 8, 7, 6, 5, 4, 3, 2, 1}};
        int[] due = {1, 7, 8, 5, 8, 16, 14, 49, 86, 59, 516};
        for (int row = 0; row < times.length; row++) {
            SmokeRelay relay = afterSendings(times[row]);
            Check.due("cost of row " + row, cost.of(relay), due[row]);
            Check.due("cost of row " + row + " again", cost.of(relay), due[row]);
        }
    }

    /** Three towers with the eyes 4, 11 and 1, and then five more with the eye 1. */
    private static SmokeRelay threeTowers() {
        SmokeRelay relay = new SmokeRelay();
        relay.addTower(0, 1, 1);
        relay.setGround(5, 9);
        relay.setGround(0, 3);
        relay.addTower(5, 2, 0);
        relay.addTower(6, 1, 0);
        return relay;
    }

    private static void addFive(SmokeRelay relay) {
        for (int tower = 3; tower < 8; tower++) {
            relay.addTower(4 * tower, 1, 1);
        }
    }

    private static void means() {
        SmokeRelay relay = threeTowers();
        Check.dueExactly("mean of three", relay.meanEye(), 16.0 / 3.0);
        addFive(relay);
        Check.dueExactly("mean of eight", relay.meanEye(), 21.0 / 8.0);
        relay.undo();
        Check.dueExactly("mean of seven", relay.meanEye(), 20.0 / 7.0);
    }

    private static void fractions() {
        SmokeRelay relay = threeTowers();
        Check.dueExactly("two of three are calm", relay.calmFraction(), 2.0f / 3.0f);
        relay.setMood(0, 0);
        Check.dueExactly("all are calm", relay.calmFraction(), 1.0);
        addFive(relay);
        Check.dueExactly("three of eight are calm", relay.calmFraction(), 3.0f / 8.0f);
        relay.undo();
        Check.dueExactly("three of seven are calm", relay.calmFraction(), 3.0f / 7.0f);
    }

    private static void example() {
        SmokeRelay relay = new SmokeRelay();
        relay.addTower(12, 3, 1);
        relay.addTower(0, 9, 0);
        for (char letter : new char[] {'k', 'a', 'b'}) {
            relay.send(1, 0, letter);
        }
        Check.dueText("the example", Check.output(relay, relay.writeTower(0)), "12+3!1:kab");
    }

    private static void writtenTowers() {
        SmokeRelay relay = new SmokeRelay();
        relay.addTower(12, 3, 1);
        relay.addTower(0, 9, 0);
        relay.setGround(0, 4);
        Check.due("without a log", relay.writeTower(0), 6);
        Check.dueText("without a log", Check.output(relay, 6), "12+3!1");
        relay.send(1, 0, 'k');
        Check.due("with one letter", relay.writeTower(0), 8);
        Check.dueText("with one letter", Check.output(relay, 8), "12+3!1:k");
        for (int value = 0; value < 8; value++) {
            relay.send(1, 0, (char) ('i' + value));
        }
        Check.due("with a full log", relay.writeTower(0), 15);
        Check.dueText("with a full log", Check.output(relay, 15), "12+3!1:ijklmnop");
        Check.due("at 0", relay.writeTower(1), 5);
        Check.dueText("at 0", Check.output(relay, 5), "0+9!0");
    }

    private static void writtenRelays() {
        SmokeRelay relay = Bounds.rowOf(12, 4, 0, 8, 20, 16, 28, 24);
        relay.setWind(-3);
        Check.due("the longest relay", relay.writeRelay(6, 2), 17);
        Check.dueText("the longest relay", Check.output(relay, 17), "6>7>4>5>0>3>1>2=7");
        Check.due("a delay of two digits", relay.writeRelay(2, 6), 6);
        Check.dueText("a delay of two digits", Check.output(relay, 6), "2>6=31");
        Check.due("to itself", relay.writeRelay(3, 3), 3);
        Check.dueText("to itself", Check.output(relay, 3), "3=0");
    }

    private static void writtenPatterns() {
        SmokeRelay relay = new SmokeRelay();
        Check.due("the length", relay.writePattern(131), 8);
        Check.dueText("smokes 0, 1 and 7", Check.output(relay, 8), "**.....*");
        Check.due("the length", relay.writePattern(0b00110100), 8);
        Check.dueText("smokes 2, 4 and 5", Check.output(relay, 8), "..*.**..");
    }

    private static void characters() {
        SmokeRelay relay = Bounds.rowOf(27, 3);
        relay.writeTower(0);
        String due = "27+1!0";
        for (int index = due.length() - 1; index >= 0; index--) {
            Check.due("outputCharacter(" + index + ")", relay.outputCharacter(index), due.charAt(index));
        }
        relay.writePattern(255);
        relay.writeTower(1);
        relay.undo();
        Check.dueText("undo leaves the output", Check.output(relay, 5), "3+1!0");
    }

    private static void consistency() {
        SmokeRelay relay = afterSendings(3, 0, 2, 5);
        Check.due("with one tower", relay.isConsistent(), true);
        relay.addTower(9, 2, 3);
        relay.addTower(20, 2, 3);
        relay.setGround(15, 9);
        relay.setWind(-4);
        Check.due("without some relays", relay.isConsistent(), true);
        Check.due("it changes nothing", relay.undoCount(), 8);
    }
}
