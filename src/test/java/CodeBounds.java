import java.util.NoSuchElementException;

/** The boundary cases of promises 38 to 48: codes, refusals, statistics and output. */
final class CodeBounds {
    private static final String NO_TOWER = "Throws IndexOutOfBoundsException if there is no such tower";
    private static final String NOTHING_REFUSED = "Throws NoSuchElementException if nothing was refused";
    private static final String NO_TOWERS = "Throws ArithmeticException if there are no towers";

    private CodeBounds() {
    }

    static void test() {
        Sentences.under("Promise 38");
        Sentences.holds("Returns the cost, 0 if nothing was sent.", () -> dueNoCost(SmokeRelay::bestCost));
        Sentences.under("Promise 39");
        Sentences.holds("Returns the same as bestCost, but is computed with two rows: one of the letters, the rarest"
                + " first, and one of the joined groups.", () -> dueNoCost(SmokeRelay::bestCostByRows));
        testRefusals();
        testMeans();
        testWriting();
        Sentences.under("Promise 48");
        Sentences.holds("Checks by second methods whether the row is consistent: canSee and canSeeBySlopes as well as"
                + " relayDelay and relayDelayByTable agree for all pairs of towers, also if there is no relay; read and"
                + " readBySearch agree for all patterns, also if they cannot be read; fewestWatchers and"
                + " fewestWatchersByRecursion as well as bestCost and bestCostByRows agree.", CodeBounds::consistent);
    }

    private static void testRefusals() {
        Sentences.under("Promise 40");
        Sentences.holds("Returns the reason of the latest refusal.", CodeBounds::latestReason);
        Sentences.holds("Returns one of the constants.", CodeBounds::eachConstant);
        Sentences.holds(NOTHING_REFUSED, () -> nothingRefused(SmokeRelay::refusalReason));
        Sentences.under("Promise 41");
        Sentences.holds("Returns the detail of the latest refusal.", CodeBounds::latestDetail);
        Sentences.holds(NOTHING_REFUSED, () -> nothingRefused(SmokeRelay::refusalDetail));
    }

    private static void testMeans() {
        Sentences.under("Promise 42");
        Sentences.holds("Returns the mean height of the eyes: the sum divided by the number of towers, both converted"
                + " to double.", CodeBounds::smallestAndGreatestMean);
        Sentences.holds(NO_TOWERS, () -> dueNoMean(relay -> (int) (relay.meanEye() * 10), 10));
        Sentences.under("Promise 43");
        Sentences.holds("Returns the fraction of towers with the mood 0: their number divided by the number of all"
                + " towers, both converted to float.", CodeBounds::smallestAndGreatestFraction);
        Sentences.holds(NO_TOWERS, () -> dueNoMean(relay -> (int) (relay.calmFraction() * 10), 10));
    }

    private static void testWriting() {
        Sentences.under("Promise 44");
        Sentences.holds("Writes a tower as the output, which replaces the previous one: its position, \"+\" and its"
                + " height, \"!\" and its mood, and, if its log is not empty, \":\" and the logged letters, the latest"
                + " one last.", CodeBounds::shortestAndLongestTower);
        Sentences.holds(NO_TOWER, () -> Bounds.noSuchTower("writeTower", SmokeRelay::writeTower));
        Sentences.under("Promise 45");
        Sentences.holds("Writes the fastest relay as the output, which replaces the previous one: the indices of the"
                + " towers, with \">\" between two towers, and \"=\" and the delay.",
                CodeBounds::shortestAndLongestRelay);
        Sentences.holds(NO_TOWER + ", for either",
                () -> Bounds.noSuchTowerForEither("writeRelay", SmokeRelay::writeRelay));
        Sentences.holds("Throws NoSuchElementException if there is no relay",
                () -> RelayBounds.dueNoRelay("writeRelay", SmokeRelay::writeRelay));
        Sentences.under("Promise 46");
        Sentences.holds("Writes a pattern as the output, which replaces the previous one: for each smoke, from 0 to 7,"
                + " \"*\" if it burns and \".\" if not.", CodeBounds::firstAndLastSmoke);
        Sentences.holds("Throws IllegalArgumentException if pattern is not from 0 to 255",
                () -> Bounds.noSuchPattern("writePattern", SmokeRelay::writePattern));
        Sentences.under("Promise 47");
        Sentences.holds("Returns a character of the output, which is empty at first.", CodeBounds::emptyOutput);
        Sentences.holds("index: the index of the character, from 0", CodeBounds::firstAndLastCharacter);
        Sentences.holds("Throws IndexOutOfBoundsException if there is no such character", CodeBounds::noSuchCharacter);
    }

    private static void dueNoCost(SightBounds.Question cost) {
        Check.due("cost of a new object", cost.of(new SmokeRelay()), 0);
        SmokeRelay relay = Bounds.rowOf(4, 5);
        Check.due("cost before the first sending", cost.of(relay), 0);
        relay.send(0, 1, 'a');
        Check.due("cost of the first sending", cost.of(relay), 1);
        relay.undo();
        Check.due("cost after undo", cost.of(relay), 0);
        relay.setMood(0, 3);
        relay.send(0, 1, 'p');
        Check.fails("garbled", UnsupportedOperationException.class, () -> relay.send(0, 1, 'b'));
        Check.due("cost after a refusal", cost.of(relay), 1);
        for (char letter = 'a'; letter <= 'p'; letter++) {
            relay.send(1, 1, letter);
        }
        Check.due("cost of all letters", cost.of(relay), 68);
    }

    private static void nothingRefused(SightBounds.Question kept) {
        Bounds.refused("of a new object", SmokeRelay::new, NoSuchElementException.class, relay -> kept.of(relay));
        Bounds.refused("after sendings", Bounds::fullRow, NoSuchElementException.class, relay -> kept.of(relay));
        SmokeRelay relay = Bounds.rowOf(1, 3);
        relay.setGround(2, 9);
        Check.due("asked", relay.wouldBeRefused(0, 1, 'a'), true);
        Check.fails("no such tower", IndexOutOfBoundsException.class, () -> relay.send(0, 2, 'a'));
        Check.fails("no such letter", IllegalArgumentException.class, () -> relay.send(0, 1, 'q'));
        Check.fails("after calls that are no refusals", NoSuchElementException.class, () -> kept.of(relay));
        Check.fails("refused", UnsupportedOperationException.class, () -> relay.send(0, 1, 'a'));
        Bounds.taken("after a refusal", () -> kept.of(relay));
    }

    private static void eachConstant() {
        Check.due("garbled", Bounds.village().refusalReason(), 2);
        SmokeRelay relay = Bounds.village();
        Check.fails("no relay", UnsupportedOperationException.class, () -> relay.send(0, 3, 'a'));
        Check.due("no relay", relay.refusalReason(), 1);
    }

    private static void latestReason() {
        SmokeRelay relay = Bounds.village();
        Check.due("reason", relay.refusalReason(), SmokeRelay.GARBLED);
        Check.fails("no relay", UnsupportedOperationException.class, () -> relay.send(0, 3, 'a'));
        Check.due("reason", relay.refusalReason(), SmokeRelay.NO_RELAY);
        Check.fails("garbled", UnsupportedOperationException.class, () -> relay.send(1, 0, 'a'));
        Check.due("reason", relay.refusalReason(), SmokeRelay.GARBLED);
    }

    private static void latestDetail() {
        SmokeRelay relay = Bounds.village();
        Check.due("detail", relay.refusalDetail(), 2);
        Check.fails("garbled", UnsupportedOperationException.class, () -> relay.send(1, 0, 'a'));
        Check.due("the first tower as the detail", relay.refusalDetail(), 0);
        Check.fails("no relay", UnsupportedOperationException.class, () -> relay.send(3, 0, 'a'));
        Check.due("the last tower as the detail", relay.refusalDetail(), 3);
    }

    private static void dueNoMean(SightBounds.Question tenfold, int want) {
        Bounds.refused("without towers", SmokeRelay::new, ArithmeticException.class, relay -> tenfold.of(relay));
        SmokeRelay relay = Bounds.rowOf(31);
        Check.due("ten times that of one tower", tenfold.of(relay), want);
        relay.undo();
        Check.fails("when the only one is undone", ArithmeticException.class, () -> tenfold.of(relay));
    }

    private static void smallestAndGreatestMean() {
        SmokeRelay relay = Bounds.rowOf(31);
        relay.setGround(0, 9);
        Check.dueExactly("the smallest", relay.meanEye(), 1.0);
        relay.setGround(31, 9);
        Check.dueExactly("one on a hill", relay.meanEye(), 10.0);
        relay.addTower(0, 9, 0);
        Check.dueExactly("two", relay.meanEye(), 14.0);
        relay.addTower(30, 1, 0);
        Check.dueExactly("three", relay.meanEye(), 29.0 / 3.0);
        SmokeRelay full = new SmokeRelay();
        for (int tower = 0; tower < 8; tower++) {
            full.setGround(tower, 9);
            full.addTower(tower, tower == 0 ? 8 : 9, 0);
        }
        Check.dueExactly("almost the greatest", full.meanEye(), 143.0 / 8.0);
    }

    private static void smallestAndGreatestFraction() {
        SmokeRelay relay = Bounds.rowOf(0, 1, 2, 3, 4, 5, 6, 7);
        Check.dueExactly("all", relay.calmFraction(), 1.0f);
        for (int tower = 0; tower < 8; tower++) {
            relay.setMood(tower, 1 + tower % 3);
            Check.dueExactly("all but " + (tower + 1), relay.calmFraction(), (7 - tower) / 8.0f);
        }
    }

    private static void shortestAndLongestTower() {
        SmokeRelay relay = Bounds.rowOf(0, 31, 9, 10);
        Check.dueText("the shortest", Check.output(relay, relay.writeTower(0)), "0+1!0");
        Check.dueText("the last place of one digit", Check.output(relay, relay.writeTower(2)), "9+1!0");
        Check.dueText("the first place of two digits", Check.output(relay, relay.writeTower(3)), "10+1!0");
        StringBuilder log = new StringBuilder();
        for (int sendings = 1; sendings <= 16; sendings++) {
            relay.send(0, 1, (char) ('a' + sendings - 1));
            log.append((char) ('a' + sendings - 1));
            log.delete(0, log.length() - Math.min(log.length(), 8));
            Check.dueText("after " + sendings, Check.output(relay, relay.writeTower(1)), "31+1!0:" + log);
        }
        Check.dueText("an empty log beside it", Check.output(relay, relay.writeTower(0)), "0+1!0");
        for (int sendings = 0; sendings < 8; sendings++) {
            relay.undo();
        }
        Check.dueText("after undo", Check.output(relay, relay.writeTower(1)), "31+1!0:abcdefgh");
    }

    private static void shortestAndLongestRelay() {
        SmokeRelay relay = Bounds.fullRow();
        Check.dueText("to itself", Check.output(relay, relay.writeRelay(0, 0)), "0=0");
        Check.dueText("to itself", Check.output(relay, relay.writeRelay(7, 7)), "7=0");
        Check.dueText("over none", Check.output(relay, relay.writeRelay(0, 7)), "0>7=28");
        relay.setWind(9);
        Check.dueText("against the wind", Check.output(relay, relay.writeRelay(7, 0)), "7>0=37");
        relay.setWind(2);
        Check.dueText("over all", Check.output(relay, relay.writeRelay(0, 7)), "0>1>2>3>4>5>6>7=14");
        Check.dueText("a delay of one digit", Check.output(relay, relay.writeRelay(3, 6)), "3>4>5>6=6");
        SmokeRelay digits = Bounds.rowOf(0, 1, 10, 11);
        Check.dueText("the last delay of one digit", Check.output(digits, digits.writeRelay(1, 2)), "1>2=9");
        Check.dueText("the first delay of two digits", Check.output(digits, digits.writeRelay(0, 2)), "0>2=10");
        delaysOfThreeDigits();
    }

    /** On this ground the fastest relay goes to and fro, against the wind each second time. */
    private static void delaysOfThreeDigits() {
        SmokeRelay relay = mountains("37897910411461203575106359232053", new int[] {6, 31, 7, 14, 24, 26, 30, 0},
                new int[] {2, 1, 5, 5, 3, 7, 3, 7});
        Check.dueText("the longest output", Check.output(relay, relay.writeRelay(0, 1)), "0>2>3>4>7>5>6>1=118");
        relay = mountains("57879424021220152180640968237223", new int[] {26, 14, 31, 21, 27, 5, 30, 0},
                new int[] {3, 2, 6, 5, 4, 2, 5, 5});
        String text = Check.output(relay, relay.writeRelay(0, 1));
        Check.dueText("the first delay of three digits", text.substring(text.indexOf('=')), "=100");
        relay = mountains("10542810096456015137575402913578", new int[] {0, 25, 2, 10, 6, 23, 15, 31},
                new int[] {1, 1, 3, 2, 8, 3, 6, 2});
        Check.dueText("the last delay of two digits", Check.output(relay, relay.writeRelay(0, 1)),
                "0>2>4>7>6>3>5>1=99");
    }

    private static SmokeRelay mountains(String ground, int[] positions, int[] heights) {
        SmokeRelay relay = new SmokeRelay();
        for (int position = 0; position < 32; position++) {
            relay.setGround(position, ground.charAt(position) - '0');
        }
        for (int tower = 0; tower < 8; tower++) {
            relay.addTower(positions[tower], heights[tower], 0);
        }
        relay.setWind(-9);
        return relay;
    }

    private static void firstAndLastSmoke() {
        SmokeRelay relay = Bounds.village();
        Check.dueText("no smoke", Check.output(relay, relay.writePattern(0)), "........");
        Check.dueText("all smokes", Check.output(relay, relay.writePattern(255)), "********");
        Check.dueText("the smoke 0", Check.output(relay, relay.writePattern(1)), "*.......");
        Check.dueText("the smoke 7", Check.output(relay, relay.writePattern(128)), ".......*");
    }

    private static void emptyOutput() {
        for (int index : new int[] {-1, 0, 1, Integer.MIN_VALUE, Integer.MAX_VALUE}) {
            Bounds.refused("of a new object", SmokeRelay::new, IndexOutOfBoundsException.class,
                    relay -> relay.outputCharacter(index));
        }
        SmokeRelay relay = Bounds.fullRow();
        Check.fails("of an object that wrote nothing", IndexOutOfBoundsException.class, () -> relay.outputCharacter(0));
        relay.writePattern(0);
        Check.due("of one that did", relay.outputCharacter(0), '.');
    }

    private static void firstAndLastCharacter() {
        SmokeRelay relay = Bounds.village();
        Check.due("the first", relay.outputCharacter(0), '*');
        Check.due("the last", relay.outputCharacter(7), '.');
        relay.writeRelay(2, 2);
        Check.due("the first of a shorter one", relay.outputCharacter(0), '2');
        Check.due("the last of a shorter one", relay.outputCharacter(2), '0');
    }

    private static void noSuchCharacter() {
        for (int index : Bounds.outside(0, 7)) {
            Bounds.refused("outputCharacter(" + index + ")", IndexOutOfBoundsException.class,
                    relay -> relay.outputCharacter(index));
        }
        SmokeRelay relay = Bounds.village();
        relay.writeRelay(2, 2);
        for (int index : Bounds.outside(0, 2)) {
            Check.fails("of a shorter output", IndexOutOfBoundsException.class, () -> relay.outputCharacter(index));
        }
    }

    private static void consistent() {
        Check.due("without towers", new SmokeRelay().isConsistent(), true);
        Check.due("with one tower", Bounds.rowOf(31).isConsistent(), true);
        Check.due("with eight towers", Bounds.fullRow().isConsistent(), true);
        Check.due("where some have no relay", Bounds.village().isConsistent(), true);
        SmokeRelay relay = Bounds.rowOf(1, 5, 9, 13, 17, 21, 25, 29);
        for (int position = 3; position < 30; position += 4) {
            relay.setGround(position, 9);
        }
        Check.due("where none has a relay", relay.isConsistent(), true);
        Check.due("groups", relay.groupCount(), 8);
        SmokeRelay asked = Bounds.village();
        asked.isConsistent();
        Check.dueText("what is asked afterwards", Asked.of(asked), Asked.of(Bounds.village()));
    }
}
