import java.util.NoSuchElementException;

/** The ordinary answers of promises 27 to 37, and refusals: patterns, moods, sending and logs. */
final class SmokeAnswers {
    private SmokeAnswers() {
    }

    static void test() {
        testPatterns();
        testReadings();
        testSending();
        testLogs();
    }

    private static void testPatterns() {
        Sentences.under("Terms");
        Sentences.holds("In the pattern of a letter, the smokes 3, 5, 6 and 7 burn if the value of the letter has the"
                + " binary digit of 1, 2, 4 and 8, in this order.", SmokeAnswers::smokesOfTheValue);
        Sentences.holds("The smokes 1, 2 and 4 burn or not so that an even number burns of the smokes 1, 3, 5, 7, of"
                + " the smokes 2, 3, 6, 7, and of the smokes 4, 5, 6, 7.", SmokeAnswers::evenGroups);
        Sentences.under("Promise 27");
        Sentences.hold("Returns the pattern of a letter.", "Returns the pattern.", SmokeAnswers::patterns);
        Sentences.under("Promise 31");
        Sentences.hold("Returns the pattern that a tower would send next for a letter, as its mood changes it.",
                "Returns the pattern.", SmokeAnswers::nextPatterns);
    }

    private static void testReadings() {
        Sentences.under("Promise 28");
        Sentences.hold("Returns the letter as which a pattern is read, computed from the groups of smokes in which an"
                + " odd number burns.", "Returns the letter.", () -> dueReadings(SmokeRelay::read));
        Sentences.under("Promise 29");
        Sentences.hold("Returns the same as read, but is computed by comparing the pattern with those of all letters.",
                "Returns the letter.", () -> dueReadings(SmokeRelay::readBySearch));
        Sentences.under("Promise 30");
        Sentences.holds("Returns the number of smokes in which a pattern differs from that of the nearest letter.",
                SmokeAnswers::wrongSmokes);
    }

    private static void testSending() {
        Sentences.under("Promise 32");
        Sentences.holds("Sends a letter.", SmokeAnswers::sendsALetter);
        Sentences.holds("Returns the delay.", SmokeAnswers::delayOfSending);
        Sentences.under("Promise 41");
        Sentences.holds("Returns the detail.", () -> {
            refusalWithoutRelay();
            refusalOfAGarbledPattern();
            refusalFurtherOn();
        });
    }

    private static void testLogs() {
        Sentences.under("Promise 34");
        Sentences.holds("Returns the count of a tower.", SmokeAnswers::countOfATower);
        Sentences.under("Promise 35");
        Sentences.holds("Returns the number of letters in the log of a tower.", SmokeAnswers::lengthOfALog);
        Sentences.under("Promise 36");
        Sentences.hold("Returns a letter in the log of a tower.", "Returns the letter.", SmokeAnswers::lettersOfALog);
        Sentences.under("Promise 37");
        Sentences.holds("Returns the number of times.", SmokeAnswers::timesOfEachLetter);
    }

    private static int burning(int pattern, int... smokes) {
        int burning = 0;
        for (int smoke : smokes) {
            burning += pattern >> smoke & 1;
        }
        return burning;
    }

    private static void smokesOfTheValue() {
        SmokeRelay relay = new SmokeRelay();
        for (int value = 0; value < 16; value++) {
            int pattern = relay.pattern((char) ('a' + value));
            Check.due("smoke 3", burning(pattern, 3), value % 2);
            Check.due("smoke 5", burning(pattern, 5), value / 2 % 2);
            Check.due("smoke 6", burning(pattern, 6), value / 4 % 2);
            Check.due("smoke 7", burning(pattern, 7), value / 8);
        }
    }

    private static void evenGroups() {
        SmokeRelay relay = new SmokeRelay();
        for (char letter = 'a'; letter <= 'p'; letter++) {
            int pattern = relay.pattern(letter);
            Check.due("of 1, 3, 5, 7 for " + letter, burning(pattern, 1, 3, 5, 7) % 2, 0);
            Check.due("of 2, 3, 6, 7 for " + letter, burning(pattern, 2, 3, 6, 7) % 2, 0);
            Check.due("of 4, 5, 6, 7 for " + letter, burning(pattern, 4, 5, 6, 7) % 2, 0);
        }
    }

    private static int patternByHand(int value) {
        boolean[] burns = new boolean[8];
        burns[3] = value % 2 == 1;
        burns[5] = value / 2 % 2 == 1;
        burns[6] = value / 4 % 2 == 1;
        burns[7] = value / 8 % 2 == 1;
        burns[1] = burns[3] ^ burns[5] ^ burns[7];
        burns[2] = burns[3] ^ burns[6] ^ burns[7];
        burns[4] = burns[5] ^ burns[6] ^ burns[7];
        int pattern = 0;
        boolean odd = false;
        for (int smoke = 7; smoke > 0; smoke--) {
            odd ^= burns[smoke];
            pattern = 2 * pattern + (burns[smoke] ? 1 : 0);
        }
        return 2 * pattern + (odd ? 1 : 0);
    }

    private static void patterns() {
        SmokeRelay relay = new SmokeRelay();
        Check.due("pattern a", relay.pattern('a'), 0);
        Check.due("pattern b", relay.pattern('b'), 0b00001111);
        Check.due("pattern c", relay.pattern('c'), 0b00110011);
        Check.due("pattern p", relay.pattern('p'), 255);
        for (int value = 0; value < 16; value++) {
            Check.due("pattern", relay.pattern((char) ('a' + value)), patternByHand(value));
        }
    }

    /** The number of wrong smokes and the letter that is the nearest one, or one of the nearest. */
    private static int[] nearest(int pattern) {
        int[] nearest = {8, 0};
        for (int value = 0; value < 16; value++) {
            int differing = Integer.bitCount(patternByHand(value) ^ pattern);
            if (differing < nearest[0]) {
                nearest[0] = differing;
                nearest[1] = 'a' + value;
            }
        }
        return nearest;
    }

    private static void dueReadings(SmokeBounds.Reading reading) {
        SmokeRelay relay = new SmokeRelay();
        for (int pattern = 0; pattern < 256; pattern++) {
            int[] due = nearest(pattern);
            int tried = pattern;
            if (due[0] > 1) {
                Check.fails("reading " + pattern, NoSuchElementException.class, () -> reading.of(relay, tried));
            } else {
                Check.due("reading " + pattern, reading.of(relay, pattern), due[1]);
            }
        }
    }

    private static void wrongSmokes() {
        SmokeRelay relay = new SmokeRelay();
        for (int pattern = 0; pattern < 256; pattern++) {
            Check.due("wrongSmokes(" + pattern + ")", relay.wrongSmokes(pattern), nearest(pattern)[0]);
        }
    }

    /** What each mood changes at the counts 0 to 11, as masks of smokes. */
    private static void nextPatterns() {
        int[][] due = {
            {0, 0, 0, 0, 0, 0, 0, 0, 0, 0, 0, 0},
            {0, 0, 4, 0, 0, 32, 0, 0, 1, 0, 0, 8},
            {1, 2, 4, 8, 16, 32, 64, 128, 1, 2, 4, 8},
            {1, 2 + 16, 4, 8 + 64, 16, 32 + 1, 64, 128 + 4, 1, 2 + 16, 4, 8 + 64}
        };
        SmokeRelay relay = Bounds.rowOf(0, 1);
        for (int count = 0; count < 12; count++) {
            for (int mood = 0; mood < 4; mood++) {
                relay.setMood(0, mood);
                for (char letter = 'a'; letter <= 'p'; letter += 5) {
                    Check.due("nextPattern mood " + mood + " count " + count, relay.nextPattern(0, letter),
                            relay.pattern(letter) ^ due[mood][count]);
                }
            }
            relay.setMood(0, 0);
            relay.send(0, 1, 'f');
        }
    }

    /** Four towers of which each sees only its neighbours, at 0, 4, 8 and 12. */
    private static SmokeRelay chain() {
        SmokeRelay relay = Bounds.rowOf(0, 4, 8, 12);
        relay.setGround(4, 2);
        relay.setGround(8, 2);
        return relay;
    }

    private static void dueCounts(SmokeRelay relay, int... counts) {
        for (int tower = 0; tower < counts.length; tower++) {
            Check.due("count(" + tower + ")", relay.count(tower), counts[tower]);
        }
    }

    private static void dueLogs(SmokeRelay relay, String... logs) {
        for (int tower = 0; tower < logs.length; tower++) {
            StringBuilder log = new StringBuilder();
            for (int recency = relay.logLength(tower) - 1; recency >= 0; recency--) {
                log.append(relay.logLetter(tower, recency));
            }
            Check.dueText("log of " + tower, log.toString(), logs[tower]);
        }
    }

    private static void sendsALetter() {
        SmokeRelay relay = chain();
        relay.setMood(1, 2);
        relay.send(0, 3, 'k');
        dueCounts(relay, 1, 1, 1, 0);
        dueLogs(relay, "", "k", "k", "k");
        relay.send(2, 0, 'b');
        dueCounts(relay, 1, 2, 2, 0);
        dueLogs(relay, "b", "kb", "k", "k");
        Check.due("sent k", relay.sent('k'), 1);
        Check.due("sent b", relay.sent('b'), 1);
        Check.due("sent c", relay.sent('c'), 0);
        Check.fails("nothing was refused", NoSuchElementException.class, relay::refusalReason);
        relay.undo();
        dueCounts(relay, 1, 1, 1, 0);
        dueLogs(relay, "", "k", "k", "k");
        Check.due("sent b after undo", relay.sent('b'), 0);
    }

    private static void delayOfSending() {
        SmokeRelay relay = chain();
        Check.due("over three steps", relay.send(0, 3, 'k'), 12);
        Check.due("over two steps", relay.send(2, 0, 'b'), 8);
        relay.setWind(3);
        Check.due("with the wind", relay.send(0, 3, 'k'), 3);
        Check.due("against the wind", relay.send(3, 1, 'k'), 14);
        Check.due("over one step", relay.send(1, 2, 'k'), relay.delay(1, 2));
    }

    private static void dueRefusal(SmokeRelay relay, int from, int to, int reason, int detail) {
        int changes = relay.undoCount();
        Check.due("wouldBeRefused", relay.wouldBeRefused(from, to, 'a'), true);
        Check.fails("send", UnsupportedOperationException.class, () -> relay.send(from, to, 'a'));
        Check.due("refusalReason", relay.refusalReason(), reason);
        Check.due("refusalDetail", relay.refusalDetail(), detail);
        Check.due("changes after a refusal", relay.undoCount(), changes);
        Check.due("sent after a refusal", relay.sent('a'), 0);
    }

    private static void refusalWithoutRelay() {
        SmokeRelay relay = chain();
        Check.due("not refused", relay.wouldBeRefused(0, 3, 'a'), false);
        relay.setGround(6, 9);
        Check.due("refused", relay.wouldBeRefused(3, 0, 'a'), true);
        Check.fails("asking keeps no detail", NoSuchElementException.class, relay::refusalDetail);
        dueRefusal(relay, 3, 0, SmokeRelay.NO_RELAY, 3);
        dueRefusal(relay, 1, 2, SmokeRelay.NO_RELAY, 1);
        dueCounts(relay, 0, 0, 0, 0);
        dueLogs(relay, "", "", "", "");
        relay.undo();
        relay.send(0, 3, 'b');
        Check.due("the reason stays", relay.refusalReason(), SmokeRelay.NO_RELAY);
        Check.due("the detail stays", relay.refusalDetail(), 1);
    }

    private static void refusalOfAGarbledPattern() {
        SmokeRelay relay = chain();
        relay.setMood(1, 3);
        relay.send(1, 2, 'c');
        dueRefusal(relay, 1, 2, SmokeRelay.GARBLED, 2);
        dueRefusal(relay, 1, 0, SmokeRelay.GARBLED, 0);
        dueCounts(relay, 0, 1, 0, 0);
        relay.setMood(1, 2);
        Check.due("one wrong smoke is read", relay.send(1, 2, 'd'), 4);
        dueLogs(relay, "", "", "cd", "");
    }

    private static void refusalFurtherOn() {
        SmokeRelay relay = chain();
        relay.setMood(1, 3);
        relay.setMood(2, 3);
        relay.send(1, 2, 'c');
        dueRefusal(relay, 0, 3, SmokeRelay.GARBLED, 2);
        relay.send(2, 3, 'e');
        dueRefusal(relay, 0, 3, SmokeRelay.GARBLED, 2);
        relay.setMood(1, 0);
        dueRefusal(relay, 0, 3, SmokeRelay.GARBLED, 3);
        dueRefusal(relay, 3, 0, SmokeRelay.GARBLED, 1);
        dueCounts(relay, 0, 1, 1, 0);
        dueLogs(relay, "", "", "c", "e");
    }

    private static void countOfATower() {
        SmokeRelay relay = chain();
        relay.send(1, 3, 'c');
        relay.send(1, 3, 'd');
        relay.send(3, 2, 'd');
        relay.send(1, 1, 'd');
        dueCounts(relay, 0, 2, 2, 1);
        relay.undo();
        relay.undo();
        dueCounts(relay, 0, 2, 2, 0);
    }

    private static void lengthOfALog() {
        SmokeRelay relay = chain();
        relay.send(0, 2, 'c');
        relay.send(3, 2, 'c');
        relay.send(1, 0, 'd');
        int[] due = {1, 1, 2, 0};
        for (int tower = 0; tower < 4; tower++) {
            Check.due("logLength(" + tower + ")", relay.logLength(tower), due[tower]);
        }
    }

    private static void lettersOfALog() {
        SmokeRelay relay = chain();
        for (int value = 0; value < 11; value++) {
            relay.send(0, 1, (char) ('a' + value));
            Check.due("latest letter", relay.logLetter(1, 0), 'a' + value);
        }
        relay.send(1, 0, 'p');
        dueLogs(relay, "p", "defghijk", "", "");
        relay.undo();
        relay.undo();
        dueLogs(relay, "", "cdefghij", "", "");
    }

    private static void timesOfEachLetter() {
        SmokeRelay relay = chain();
        String letters = "pabcapoap";
        for (char letter : letters.toCharArray()) {
            relay.send(0, 3, letter);
        }
        for (char letter = 'a'; letter <= 'p'; letter++) {
            int times = letters.length() - letters.replace(String.valueOf(letter), "").length();
            Check.due("sent " + letter, relay.sent(letter), times);
        }
        relay.undo();
        Check.due("sent p after undo", relay.sent('p'), 2);
    }
}
