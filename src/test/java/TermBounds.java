import java.util.NoSuchElementException;

/** The boundary cases of the section "Terms" but for those of commands and undo. */
final class TermBounds {
    private TermBounds() {
    }

    static void test() {
        Sentences.under("What it is");
        Sentences.holds("An object is used for at most 512 calls after it has been made; what later calls answer is"
                + " free.", TermBounds::fiveHundredAndTwelveCalls);
        Sentences.under("Terms");
        testConstants();
        testGroundAndSight();
        testWindAndRelays();
        testPatternsAndMoods();
        testSendingAndCodes();
    }

    private static void testConstants() {
        Sentences.holds("The constants: NO_RELAY = 1: Reason for a refusal: there is no relay.",
                () -> Check.due("NO_RELAY", SmokeRelay.NO_RELAY, 1));
        Sentences.holds("GARBLED = 2: Reason for a refusal: a tower cannot read the pattern.",
                () -> Check.due("GARBLED", SmokeRelay.GARBLED, 2));
    }

    private static void testGroundAndSight() {
        Sentences.holds("There are 32 positions in a row, numbered from 0, each with a ground of a height from 0 to 9,"
                + " at first 0.", TermBounds::positions);
        Sentences.holds("There are at most 8 towers; their indices start at 0 and follow the order in which they were"
                + " added.", TermBounds::towers);
        Sentences.holds("A tower stands at a position at which no other one stands; it has a height from 1 to 9 and a"
                + " mood from 0 to 3.", TermBounds::heightsAndMoods);
        Sentences.holds("Its eye is at the height of the ground at its position plus its height.",
                TermBounds::lowestAndHighestEye);
        Sentences.holds("Two different towers see each other if, at each position between theirs, the ground is lower"
                + " than the straight line between their eyes.", TermBounds::groundAtTheLine);
        Sentences.holds("A tower sees a position if, at each position between its own one and this one, the ground is"
                + " lower than the straight line between its eye and the ground at this position; it also sees its own"
                + " position.", TermBounds::groundAtTheLineToAPosition);
        Sentences.holds("A watch is a set of towers such that each position that some tower sees is seen by at least"
                + " one of them.", TermBounds::positionsThatNobodySees);
    }

    private static void testWindAndRelays() {
        Sentences.holds("The wind is a number from -9 to 9, at first 0.", TermBounds::winds);
        Sentences.holds("The delay from a tower to another one that it sees is the distance of their positions, less"
                + " the wind if the other one has the greater position, and plus the wind otherwise, but at least 1.",
                TermBounds::smallestDelay);
        Sentences.holds("A relay from a tower to another one is a row of towers that begins with the one and ends with"
                + " the other, and in which each tower but the last one sees the next one.", TermBounds::onlyOneRelay);
        Sentences.holds("The fastest relay has the smallest delay; of several, the fewest towers; of several, the one"
                + " whose first tower that differs has the smaller index.", TermBounds::equallyFastRelays);
        Sentences.holds("From a tower to itself the relay is this tower alone, with the delay 0.",
                TermBounds::relayToItself);
    }

    private static void testPatternsAndMoods() {
        Sentences.holds("There are 16 letters, from 'a' to 'p', with the values 0 to 15.", TermBounds::letters);
        Sentences.holds("A pattern is a set of burning smokes of 8, numbered from 0; it is told as the sum of 2 to the"
                + " power of the numbers of its burning smokes.", TermBounds::firstAndLastSmoke);
        Sentences.holds("The smoke 0 burns or not so that an even number of all smokes burns.",
                TermBounds::evenNumberOfSmokes);
        Sentences.holds("A pattern is read as the letter whose pattern differs from it in at most one smoke; if there"
                + " is no such letter, it cannot be read.", TermBounds::readableAndUnreadable);
        Sentences.holds("The count of a tower is the number of signals that it has sent so far.", TermBounds::counts);
        Sentences.holds("Then its count increases by 1.", SmokeBounds::countFromZeroOn);
        Sentences.holds("When a tower with the count c sends a pattern, its mood changes smokes, that is, they burn if"
                + " they did not, and the other way about: with the mood 0 none; with the mood 1 the smoke c modulo 8,"
                + " if c modulo 3 is 2; with the mood 2 the smoke c modulo 8; with the mood 3 the smoke c modulo 8 and,"
                + " if c is odd, also the smoke c + 3 modulo 8.", TermBounds::moodsAllTheWayRound);
    }

    private static void testSendingAndCodes() {
        Sentences.holds("A letter is sent along the fastest relay to another tower: each tower but the last one sends"
                + " the pattern of the letter, and the next tower reads it and logs the letter.",
                TermBounds::firstAndLastOfARelay);
        Sentences.holds("Sending is refused for the first of these reasons that applies: there is no relay (NO_RELAY,"
                + " the detail is the first tower); a tower cannot read the pattern (GARBLED, the detail is the first"
                + " such tower).", TermBounds::firstReason);
        Sentences.holds("A refused sending changes nothing but the latest refusal.", TermBounds::refusedSending);
        Sentences.holds("Each tower keeps the latest 8 letters that it logged.", TermBounds::latestEightLetters);
        Sentences.holds("A code gives each letter that was sent at least once a word of binary digits, so that none of"
                + " these words is the beginning of another one of them.", TermBounds::lettersWithAWord);
        Sentences.holds("With a single letter, its word has the length 1.", TermBounds::singleLetter);
    }

    private static void fiveHundredAndTwelveCalls() {
        SmokeRelay relay = Bounds.rowOf(0, 31);
        for (int call = 3; call <= 500; call++) {
            Check.due("call " + call, relay.send(call % 2, 1, 'c'), call % 2 == 0 ? 31 : 0);
        }
        Check.due("call 501", relay.count(0), 249);
        Check.due("call 502", relay.sent('c'), 498);
        Check.due("call 503", relay.bestCost(), 498);
        Check.due("call 504", relay.bestCostByRows(), 498);
        Check.due("call 505", relay.logLength(1), 8);
        for (int left = 7; left > 1; left--) {
            Check.due("calls 506 to 511", relay.undo(), left);
        }
        Check.due("call 512", relay.count(0), 246);
    }

    private static void positions() {
        for (int position = 0; position < 32; position++) {
            SmokeRelay relay = new SmokeRelay();
            Check.due("ground at first", relay.ground(position), 0);
            for (int height = 0; height < 10; height++) {
                relay.setGround(position, height);
                Check.due("ground", relay.ground(position), height);
            }
            for (int other = 0; other < 32; other++) {
                Check.due("ground beside it", relay.ground(other), other == position ? 9 : 0);
            }
        }
    }

    private static void towers() {
        SmokeRelay relay = new SmokeRelay();
        int[] positions = {31, 0, 30, 1, 29, 2, 28, 3};
        for (int tower = 0; tower < 8; tower++) {
            Check.due("index", relay.addTower(positions[tower], 1, 0), tower);
        }
        for (int tower = 0; tower < 8; tower++) {
            Check.due("position", relay.positionOf(tower), positions[tower]);
        }
        Check.fails("a ninth one", IllegalStateException.class, () -> relay.addTower(15, 1, 0));
        relay.undo();
        Check.due("the eighth once more", relay.addTower(15, 1, 0), 7);
        Check.due("position", relay.positionOf(7), 15);
    }

    private static void heightsAndMoods() {
        for (int height = -1; height <= 11; height++) {
            for (int mood = -1; mood <= 5; mood++) {
                int tried = height;
                int moodTried = mood;
                boolean fits = height >= 1 && height <= 9 && mood >= 0 && mood <= 3;
                SmokeRelay relay = new SmokeRelay();
                Check.due("height " + height + " and mood " + mood + " fit",
                        !Bounds.fails(() -> relay.addTower(0, tried, moodTried)), fits);
                if (fits) {
                    Check.due("eye", relay.eye(0), height);
                    Check.due("mood", relay.mood(0), mood);
                    Check.fails("another one there", IllegalStateException.class, () -> relay.addTower(0, 1, 0));
                }
            }
        }
    }

    private static void lowestAndHighestEye() {
        SmokeRelay relay = Bounds.rowOf(0);
        relay.addTower(31, 9, 0);
        Check.due("the lowest", relay.eye(0), 1);
        relay.setGround(31, 9);
        Check.due("the highest", relay.eye(1), 18);
        relay.setGround(31, 0);
        Check.due("after the ground sank", relay.eye(1), 9);
    }

    private static void dueSight(SmokeRelay relay, boolean want) {
        Check.due("canSee", relay.canSee(0, 1), want);
        Check.due("canSee back", relay.canSee(1, 0), want);
        Check.due("canSeeBySlopes", relay.canSeeBySlopes(0, 1), want);
        Check.due("canSeeBySlopes back", relay.canSeeBySlopes(1, 0), want);
    }

    private static SmokeRelay twoTowers(int position, int height, int other, int otherHeight) {
        SmokeRelay relay = new SmokeRelay();
        relay.addTower(position, height, 0);
        relay.addTower(other, otherHeight, 0);
        return relay;
    }

    /** The ground just below the line hides nothing, the one that touches it does. */
    private static void dueTouching(SmokeRelay relay, int position, int below) {
        relay.setGround(position, below);
        dueSight(relay, true);
        relay.setGround(position, below + 1);
        dueSight(relay, false);
        relay.setGround(position, 0);
    }

    private static void groundAtTheLine() {
        for (int position : new int[] {1, 2, 15, 29, 30}) {
            dueTouching(twoTowers(0, 2, 31, 2), position, 1);
            dueTouching(twoTowers(0, 9, 31, 9), position, 8);
        }
        SmokeRelay sloping = twoTowers(10, 9, 18, 1);
        for (int step = 1; step < 8; step++) {
            dueTouching(sloping, 10 + step, 8 - step);
        }
        SmokeRelay between = twoTowers(10, 9, 13, 1);
        dueTouching(between, 11, 6);
        dueTouching(between, 12, 3);
        between.setGround(9, 9);
        between.setGround(14, 9);
        dueSight(between, true);
        groundOfTheTowers();
    }

    /** The ground under the towers themselves hides nothing, and neighbours have none between them. */
    private static void groundOfTheTowers() {
        for (int position : new int[] {0, 30}) {
            SmokeRelay relay = twoTowers(position, 1, position + 1, 1);
            dueSight(relay, true);
            relay.setGround(position, 9);
            dueSight(relay, true);
            relay.setGround(position, 0);
            relay.setGround(position + 1, 9);
            dueSight(relay, true);
        }
        SmokeRelay high = twoTowers(0, 1, 31, 1);
        high.setGround(0, 9);
        high.setGround(31, 9);
        high.setGround(15, 9);
        dueSight(high, true);
    }

    private static void groundAtTheLineToAPosition() {
        SmokeRelay relay = new SmokeRelay();
        relay.addTower(10, 4, 0);
        for (int step = 1; step < 4; step++) {
            relay.setGround(10 + step, 4 - step);
            relay.setGround(10 - step, 4 - step);
            Check.due("the touching ground at " + step, relay.seesPosition(0, 14), false);
            Check.due("the touching ground before " + step, relay.seesPosition(0, 6), false);
            relay.setGround(10 + step, 3 - step);
            relay.setGround(10 - step, 3 - step);
            Check.due("the ground below the line at " + step, relay.seesPosition(0, 14), true);
            Check.due("the ground below the line before " + step, relay.seesPosition(0, 6), true);
            relay.setGround(10 + step, 0);
            relay.setGround(10 - step, 0);
        }
        relay.setGround(14, 9);
        Check.due("the ground at the position itself", relay.seesPosition(0, 14), true);
        Check.due("just behind it", relay.seesPosition(0, 15), false);
        ownPosition();
    }

    private static void ownPosition() {
        for (int position : new int[] {0, 15, 31}) {
            SmokeRelay relay = Bounds.rowOf(position);
            for (int beside = Math.max(position - 1, 0); beside <= Math.min(position + 1, 31); beside++) {
                Check.due("its own position and those beside it", relay.seesPosition(0, beside), true);
                relay.setGround(beside, 9);
                Check.due("also if they are high", relay.seesPosition(0, beside), true);
            }
            Check.due("its own position between them", relay.seesPosition(0, position), true);
        }
    }

    private static void positionsThatNobodySees() {
        SmokeRelay relay = Bounds.rowOf(10);
        relay.setGround(9, 9);
        relay.setGround(11, 9);
        Check.due("positions that are seen", relay.seenPositions(0), 3);
        Check.due("fewestWatchers", relay.fewestWatchers(), 1);
        Check.due("fewestWatchersByRecursion", relay.fewestWatchersByRecursion(), 1);
        relay.addTower(8, 1, 0);
        Check.due("fewestWatchers of two", relay.fewestWatchers(), 2);
        Check.due("fewestWatchersByRecursion of two", relay.fewestWatchersByRecursion(), 2);
        relay.setGround(9, 0);
        Check.due("fewestWatchers without the hill", relay.fewestWatchers(), 1);
        Check.due("fewestWatchersByRecursion without the hill", relay.fewestWatchersByRecursion(), 1);
    }

    private static void winds() {
        SmokeRelay relay = new SmokeRelay();
        Check.due("wind at first", relay.wind(), 0);
        for (int wind = -12; wind <= 12; wind++) {
            int tried = wind;
            int before = relay.wind();
            boolean fits = wind >= -9 && wind <= 9;
            Check.due("wind " + wind + " fits", !Bounds.fails(() -> relay.setWind(tried)), fits);
            Check.due("wind", relay.wind(), fits ? wind : before);
        }
    }

    private static void smallestDelay() {
        SmokeRelay relay = Bounds.rowOf(10, 15);
        for (int wind = -9; wind <= 9; wind++) {
            relay.setWind(wind);
            Check.due("delay to the right", relay.delay(0, 1), wind >= 4 ? 1 : 5 - wind);
            Check.due("delay to the left", relay.delay(1, 0), wind <= -4 ? 1 : 5 + wind);
        }
        SmokeRelay beside = Bounds.rowOf(31, 30);
        beside.setWind(9);
        Check.due("a neighbour with the wind", beside.delay(1, 0), 1);
        Check.due("a neighbour against the wind", beside.delay(0, 1), 10);
        SmokeRelay ends = Bounds.rowOf(0, 31);
        ends.setWind(-9);
        Check.due("the longest delay", ends.delay(0, 1), 40);
        Check.due("the same way back", ends.delay(1, 0), 22);
    }

    /** Those in the middle stand on hills, so that each tower sees but the ones beside it. */
    private static void onlyOneRelay() {
        SmokeRelay relay = Bounds.rowOf(4, 8, 12, 16);
        relay.setGround(8, 4);
        relay.setGround(12, 4);
        Check.dueText("from the first", Check.output(relay, relay.writeRelay(0, 3)), "0>1>2>3=12");
        Check.dueText("from the last", Check.output(relay, relay.writeRelay(3, 0)), "3>2>1>0=12");
        relay.setGround(10, 6);
        for (int from = 0; from < 4; from++) {
            for (int to = 0; to < 4; to++) {
                dueHidden(relay, from, to, from / 2 != to / 2);
            }
        }
        relayOverEachIndex();
    }

    private static void dueHidden(SmokeRelay relay, int from, int to, boolean want) {
        String pair = " from " + from + " to " + to;
        Check.due("no relay" + pair, Bounds.fails(() -> relay.relayDelay(from, to)), want);
        Check.due("none by table" + pair, Bounds.fails(() -> relay.relayDelayByTable(from, to)), want);
    }

    /** Two towers see no other one but the tower on the ridge between them, whichever index it has. */
    private static void relayOverEachIndex() {
        int[][] positions = {{10, 4, 18}, {18, 10, 4}, {4, 18, 10}};
        for (int ridge = 0; ridge < 3; ridge++) {
            SmokeRelay relay = Bounds.rowOf(positions[ridge]);
            relay.setGround(10, 9);
            relay.setWind(2);
            int left = (ridge + 1) % 3;
            int right = (ridge + 2) % 3;
            dueRelay(relay, left, right, left + ">" + ridge + ">" + right + "=10");
            dueRelay(relay, right, left, right + ">" + ridge + ">" + left + "=18");
        }
    }

    private static void dueRelay(SmokeRelay relay, int from, int to, String want) {
        Check.dueText("the relay", Check.output(relay, relay.writeRelay(from, to)), want);
        String towers = want.substring(0, want.indexOf('=')).replace(">", "");
        int delay = Integer.parseInt(want.substring(want.indexOf('=') + 1));
        Check.due("relayDelay", relay.relayDelay(from, to), delay);
        Check.due("relayDelayByTable", relay.relayDelayByTable(from, to), delay);
        Check.due("relayLength", relay.relayLength(from, to), towers.length());
        for (int place = 0; place < towers.length(); place++) {
            Check.due("relayTower", relay.relayTower(from, to, place), towers.charAt(place) - '0');
        }
    }

    /** With the wind 9 each step of 1 to 10 to the right takes 1, so that three steps to 28 can be had in many ways. */
    private static void equallyFastRelays() {
        int[][] positions = {{0, 8, 9, 19, 28, 18}, {0, 9, 8, 19, 28, 18}, {0, 9, 8, 18, 28, 19}};
        String[] due = {"0>1>5>4=3", "0>1>3>4=3", "0>1>3>4=3"};
        for (int row = 0; row < 3; row++) {
            SmokeRelay relay = Bounds.rowOf(positions[row]);
            relay.setWind(9);
            dueRelay(relay, 0, 4, due[row]);
        }
        SmokeRelay relay = Bounds.rowOf(0, 2, 4, 9);
        dueRelay(relay, 0, 3, "0>3=9");
        relay.setWind(1);
        dueRelay(relay, 0, 3, "0>1>2>3=6");
        relay.setWind(-1);
        dueRelay(relay, 0, 3, "0>3=10");
        dueRelay(relay, 3, 0, "3>2>1>0=6");
        relay.setWind(9);
        dueRelay(relay, 0, 3, "0>3=1");
        fewerTowersAheadOfSmallerIndices();
    }

    private static void fewerTowersAheadOfSmallerIndices() {
        SmokeRelay relay = Bounds.rowOf(12, 3, 6, 0);
        dueRelay(relay, 3, 0, "3>0=12");
        relay.setGround(7, 1);
        Check.fails("hidden behind the hill", NoSuchElementException.class, () -> relay.relayDelay(3, 0));
        relay.addTower(9, 9, 0);
        dueRelay(relay, 3, 0, "3>4>0=12");
        relay.setWind(9);
        dueRelay(relay, 3, 0, "3>4>0=2");
    }

    private static void relayToItself() {
        for (int tower = 0; tower < 4; tower++) {
            SmokeRelay relay = Bounds.village();
            dueRelay(relay, tower, tower, tower + "=0");
            int alone = tower;
            Check.fails("a second place", NoSuchElementException.class, () -> relay.relayTower(alone, alone, 1));
        }
        for (int wind : new int[] {-9, 9}) {
            SmokeRelay relay = Bounds.fullRow();
            relay.setWind(wind);
            dueRelay(relay, 7, 7, "7=0");
        }
    }

    private static void letters() {
        int seen = 0;
        for (char letter = 'a'; letter <= 'p'; letter++) {
            int pattern = new SmokeRelay().pattern(letter);
            int value = (pattern >> 3 & 1) + (pattern >> 5 & 1) * 2 + (pattern >> 6 & 1) * 4 + (pattern >> 7 & 1) * 8;
            Check.due("value of " + letter, value, letter - 'a');
            seen |= 1 << value;
        }
        Check.due("all values", seen, 65535);
        for (int letter = 0; letter < 65536; letter += letter < 300 ? 1 : 251) {
            char tried = (char) letter;
            Check.due(letter + " is a letter", !Bounds.fails(() -> new SmokeRelay().pattern(tried)),
                    letter >= 'a' && letter <= 'p');
        }
    }

    private static void firstAndLastSmoke() {
        SmokeRelay relay = Bounds.rowOf(3, 4);
        relay.setMood(0, 2);
        for (int smoke = 0; smoke < 8; smoke++) {
            Check.due("the smoke " + smoke, relay.nextPattern(0, 'a'), 1 << smoke);
            Check.due("all but the smoke " + smoke, relay.nextPattern(0, 'p'), 255 - (1 << smoke));
            relay.send(0, 1, 'a');
        }
        Check.due("no smoke", relay.pattern('a'), 0);
        Check.due("all smokes", relay.pattern('p'), 255);
    }

    /** None of all smokes is an even number, too. */
    private static void evenNumberOfSmokes() {
        int[] due = {0, 4, 4, 4, 4, 4, 4, 4, 4, 4, 4, 4, 4, 4, 4, 8};
        int withSmoke0 = 0;
        for (int value = 0; value < 16; value++) {
            int pattern = new SmokeRelay().pattern((char) ('a' + value));
            Check.due("smokes of " + (char) ('a' + value), Integer.bitCount(pattern), due[value]);
            withSmoke0 += pattern & 1;
        }
        Check.due("letters with the smoke 0", withSmoke0, 8);
    }

    private static void readableAndUnreadable() {
        int readable = 0;
        for (int pattern = 0; pattern < 256; pattern++) {
            SmokeRelay relay = new SmokeRelay();
            int tried = pattern;
            boolean isRead = relay.wrongSmokes(pattern) <= 1;
            readable += isRead ? 1 : 0;
            Check.due("read(" + pattern + ")", !Bounds.fails(() -> relay.read(tried)), isRead);
            Check.due("readBySearch(" + pattern + ")", !Bounds.fails(() -> relay.readBySearch(tried)), isRead);
            if (isRead) {
                int differing = Integer.bitCount(relay.pattern(relay.read(pattern)) ^ pattern);
                Check.due("one smoke at most", differing <= 1, true);
                Check.due("readBySearch", relay.readBySearch(pattern), relay.read(pattern));
            }
        }
        Check.due("each letter and all with one wrong smoke", readable, 16 * 9);
    }

    private static void counts() {
        SmokeRelay relay = Bounds.fullRow();
        Check.due("the count of none", relay.count(7), 0);
        relay.setWind(2);
        relay.send(2, 5, 'a');
        int[] due = {7, 1, 1, 1, 1, 0, 0, 0};
        for (int tower = 0; tower < 8; tower++) {
            Check.due("count(" + tower + ")", relay.count(tower), due[tower]);
        }
    }

    /** The moods come round after 24 signals. */
    private static void moodsAllTheWayRound() {
        SmokeRelay relay = Bounds.rowOf(3, 4);
        for (int count = 0; count < 27; count++) {
            int smoke = 1 << count % 8;
            int further = 1 << (count + 3) % 8;
            int[] due = {0, count % 3 == 2 ? smoke : 0, smoke, count % 2 == 1 ? smoke + further : smoke};
            for (int mood = 3; mood >= 0; mood--) {
                relay.setMood(0, mood);
                Check.due("mood " + mood + " at " + count, relay.nextPattern(0, 'a'), due[mood]);
                Check.due("mood " + mood + " at " + count, relay.nextPattern(0, 'k'), due[mood] ^ relay.pattern('k'));
            }
            relay.send(0, 1, 'a');
        }
    }

    private static void firstAndLastOfARelay() {
        SmokeRelay relay = Bounds.rowOf(0, 4, 8, 12, 16, 20, 24, 28);
        relay.setWind(2);
        Check.due("delay over all", relay.send(0, 7, 'c'), 14);
        for (int tower = 0; tower < 8; tower++) {
            Check.due("count(" + tower + ")", relay.count(tower), tower < 7 ? 1 : 0);
            Check.due("logLength(" + tower + ")", relay.logLength(tower), tower > 0 ? 1 : 0);
        }
        Check.due("delay over none", relay.send(7, 6, 'd'), 6);
        Check.due("count of the sender", relay.count(7), 1);
        Check.due("log of the reader", relay.logLetter(6, 0), 'd');
        Check.due("log of the sender", relay.logLength(7), 1);
    }

    /** The relay goes 0, 2, 1, 3, so that the first tower of it that cannot read is not the one of the least index. */
    private static void firstReason() {
        SmokeRelay relay = Bounds.rowOf(0, 8, 4, 12);
        relay.setWind(2);
        Check.dueText("the relay", Check.output(relay, relay.writeRelay(0, 3)), "0>2>1>3=6");
        for (int tower : new int[] {1, 0, 2}) {
            relay.setMood(tower, 3);
            relay.send(tower, tower == 0 ? 2 : tower == 2 ? 1 : 3, 'a');
        }
        dueRefusal(relay, 0, 3, SmokeRelay.GARBLED, 2);
        relay.setMood(0, 2);
        dueRefusal(relay, 0, 3, SmokeRelay.GARBLED, 1);
        relay.setMood(2, 0);
        dueRefusal(relay, 0, 3, SmokeRelay.GARBLED, 3);
        relay.setGround(10, 9);
        dueRefusal(relay, 0, 3, SmokeRelay.NO_RELAY, 0);
        dueRefusal(relay, 3, 1, SmokeRelay.NO_RELAY, 3);
        relay.setGround(10, 0);
        relay.setMood(1, 0);
        Check.due("none of the reasons", relay.send(0, 3, 'a'), 6);
    }

    private static void dueRefusal(SmokeRelay relay, int from, int to, int reason, int detail) {
        Check.fails("send", UnsupportedOperationException.class, () -> relay.send(from, to, 'a'));
        Check.due("reason", relay.refusalReason(), reason);
        Check.due("detail", relay.refusalDetail(), detail);
    }

    private static void refusedSending() {
        for (int[] refused : new int[][] {{0, 3}, {3, 2}, {1, 0}, {1, 2}, {2, 0}}) {
            SmokeRelay relay = Bounds.village();
            Check.fails("send", UnsupportedOperationException.class, () -> relay.send(refused[0], refused[1], 'm'));
            Check.dueText("all but the refusal", Asked.without(Asked.of(relay), "refusal"),
                    Asked.without(Asked.of(Bounds.village()), "refusal"));
        }
        SmokeRelay latest = Bounds.village();
        dueRefusal(latest, 0, 3, SmokeRelay.NO_RELAY, 0);
    }

    private static void latestEightLetters() {
        SmokeRelay relay = Bounds.rowOf(3, 4);
        String sent = "";
        for (int sendings = 0; sendings < 26; sendings++) {
            char letter = (char) ('a' + sendings * 5 % 16);
            relay.send(0, 1, letter);
            sent += letter;
            StringBuilder log = new StringBuilder();
            for (int recency = relay.logLength(1) - 1; recency >= 0; recency--) {
                log.append(relay.logLetter(1, recency));
            }
            Check.dueText("the log", log.toString(), sent.substring(Math.max(0, sent.length() - 8)));
        }
    }

    private static void dueCost(SmokeRelay relay, int want) {
        Check.due("bestCost", relay.bestCost(), want);
        Check.due("bestCostByRows", relay.bestCostByRows(), want);
    }

    /** One after the other, all letters are sent, the first ones and the last ones first. */
    private static void lettersWithAWord() {
        int[] due = {0, 1, 2, 5, 8, 12, 16, 20, 24, 29, 34, 39, 44, 49, 54, 59, 64};
        SmokeRelay relay = Bounds.rowOf(3);
        for (int letters = 0; letters <= 16; letters++) {
            dueCost(relay, due[letters]);
            if (letters < 16) {
                relay.send(0, 0, (char) (letters % 2 == 0 ? 'a' + letters / 2 : 'p' - letters / 2));
            }
        }
        relay.undo();
        dueCost(relay, 59);
    }

    private static void singleLetter() {
        for (char letter : new char[] {'a', 'h', 'p'}) {
            SmokeRelay relay = Bounds.rowOf(3);
            for (int times = 1; times <= 20; times++) {
                relay.send(0, 0, letter);
                dueCost(relay, times);
            }
            relay.send(0, 0, 'c');
            dueCost(relay, 21);
        }
    }
}
