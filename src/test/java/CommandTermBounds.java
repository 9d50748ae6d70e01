import java.util.ArrayList;
import java.util.List;
import java.util.NoSuchElementException;
import java.util.function.Consumer;

/** The boundary cases of the section "Terms" that tell of commands and undo. */
final class CommandTermBounds {
    /** A sign that stands for any digit, and one for any letter that can be sent. */
    private static final char DIGIT = '#';
    private static final char LETTER = '@';
    /** All forms of a command; of a number and of a wind both forms. */
    private static final String[] FORMS = {"ground #*#", "ground ##*#", "tower #+#!#", "tower ##+#!#", "mood #!#",
        "wind #", "wind -#", "send #>#:@"};

    private CommandTermBounds() {
    }

    static void test() {
        Sentences.under("Terms");
        testTexts();
        testChanges();
    }

    private static void testTexts() {
        Sentences.holds("The input buffer holds at most 60 characters.", CommandTermBounds::sixtyCharacters);
        Sentences.holds("A text consists of one or more commands, separated by semicolons: \"ground \", a number, \"*\""
                + " and a digit sets the ground at a position; \"tower \", a number, \"+\", a digit, \"!\" and a digit"
                + " adds a tower with its position, its height and its mood; \"mood \", a digit, \"!\" and a digit sets"
                + " the mood of a tower; \"wind \", \"-\" or not, and a digit sets the wind;",
                CommandTermBounds::oneOrMoreCommands);
        Sentences.holds("\"send \", a digit, \">\", a digit, \":\" and a letter from 'a' to 'p' sends a letter from a"
                + " tower to a tower.", CommandTermBounds::sentLetters);
        Sentences.holds("Numbers have one or two digits.", CommandTermBounds::lengthsOfNumbers);
        Sentences.holds("A text is malformed if it does not have this form.", CommandTermBounds::oneSignTooFew);
        Sentences.holds("Its error position is the index of the first character that cannot continue a well-formed"
                + " text, or the length of the text if the text ends too early.", CommandTermBounds::errorPositions);
        Sentences.holds("Keywords are compared letter by letter.", CommandTermBounds::otherKeywords);
    }

    private static void testChanges() {
        Sentences.holds("A successful call of setGround, addTower, setMood, setWind, send or execute is a change.",
                CommandTermBounds::whatIsAChange);
        Sentences.holds("At most the latest 8 changes that are not undone can be undone.",
                CommandTermBounds::latestEightChanges);
        Sentences.holds("The input buffer, the output, the error position, the failed command and the latest refusal"
                + " are affected neither by undo nor by saving.", CommandTermBounds::whatUndoLeaves);
        Sentences.holds("A call that throws an exception changes nothing, unless its description says otherwise.",
                CommandTermBounds::failedCallsChangeNothing);
        Sentences.holds("If several conditions for exceptions hold, the one that is listed first decides.",
                CommandTermBounds::firstCondition);
    }

    private static void sixtyCharacters() {
        for (String text : new String[] {CommandBounds.FIVE_COMMANDS, CommandBounds.EIGHT_COMMANDS}) {
            Check.due("length", text.length(), 60);
            SmokeRelay relay = new SmokeRelay();
            Check.feedText(relay, text);
            Check.fails("one more", IllegalStateException.class, () -> relay.feed(';'));
            Check.due("all of it is executed", relay.execute(), text.split(";").length);
            Check.due("wind", relay.wind(), text.endsWith("wind 8") ? 8 : 0);
            Check.due("towers", relay.towerCount(), text.endsWith("tower 14+1!0") ? 1 : 0);
            Check.due("the buffer is empty", relay.feed('x'), 1);
        }
        CommandBounds.dueMalformed(new SmokeRelay(), CommandBounds.FIVE_COMMANDS.substring(0, 57) + "11;", 58);
        CommandBounds.dueMalformed(new SmokeRelay(), CommandBounds.EIGHT_COMMANDS.substring(0, 51) + ";mood 9!1", 51);
        String cut = CommandBounds.EIGHT_COMMANDS.substring(1).replace("ind -1", "wind 1") + ";";
        CommandBounds.dueMalformed(new SmokeRelay(), cut, 60);
    }

    private static void oneOrMoreCommands() {
        CommandBounds.dueMalformed(new SmokeRelay(), "", 0);
        CommandBounds.dueMalformed(new SmokeRelay(), ";", 0);
        CommandBounds.dueMalformed(new SmokeRelay(), "wind 1;", 7);
        CommandBounds.dueMalformed(new SmokeRelay(), ";wind 1", 0);
        CommandBounds.dueMalformed(new SmokeRelay(), "wind 1;;wind 2", 7);
        SmokeRelay relay = new SmokeRelay();
        Check.due("one", Check.executeText(relay, "ground 31*9"), 1);
        Check.due("ground", relay.ground(31), 9);
        Check.due("two", Check.executeText(relay, "tower 31+9!3;tower 0+1!0"), 2);
        Check.due("the highest eye", relay.eye(0), 18);
        Check.due("the greatest mood", relay.mood(0), 3);
        Check.due("the lowest eye", relay.eye(1), 1);
        Check.due("three", Check.executeText(relay, "mood 0!0;mood 1!3;ground 31*0"), 3);
        Check.due("the smallest mood", relay.mood(0), 0);
        Check.due("the greatest mood", relay.mood(1), 3);
        Check.due("the ground", relay.ground(31), 0);
        String[] winds = {"wind 9", "wind 0", "wind -0", "wind -1", "wind -9"};
        int[] due = {9, 0, 0, -1, -9};
        for (int wind = 0; wind < 5; wind++) {
            Check.due(winds[wind], Check.executeText(relay, winds[wind]), 1);
            Check.due(winds[wind], relay.wind(), due[wind]);
        }
    }

    private static void sentLetters() {
        SmokeRelay relay = Bounds.fullRow();
        for (char letter = 'a'; letter <= 'p'; letter++) {
            int sent = relay.sent(letter);
            Check.due("send " + letter, Check.executeText(relay, "send 7>0:" + letter), 1);
            Check.due("sent " + letter, relay.sent(letter), sent + 1);
            Check.due("logged " + letter, relay.logLetter(0, 0), letter);
        }
        Check.due("count", relay.count(7), 16);
        for (char letter : Bounds.NO_LETTERS) {
            CommandBounds.dueMalformed(Bounds.fullRow(), "send 7>0:" + letter, 9);
        }
    }

    private static void lengthsOfNumbers() {
        CommandBounds.dueMalformed(new SmokeRelay(), "ground *1", 7);
        CommandBounds.dueMalformed(new SmokeRelay(), "ground 000*1", 9);
        CommandBounds.dueMalformed(new SmokeRelay(), "ground 012*1", 9);
        CommandBounds.dueMalformed(new SmokeRelay(), "ground 311*1", 9);
        CommandBounds.dueMalformed(new SmokeRelay(), "tower +1!0", 6);
        CommandBounds.dueMalformed(new SmokeRelay(), "tower 001+1!0", 8);
        String[] numbers = {"0", "00", "9", "09", "10", "19", "20", "29", "30", "31"};
        for (String number : numbers) {
            SmokeRelay relay = new SmokeRelay();
            int position = Integer.parseInt(number);
            Check.due("ground " + number, Check.executeText(relay, "ground " + number + "*7"), 1);
            Check.due("ground " + number, relay.ground(position), 7);
            Check.due("tower " + number, Check.executeText(relay, "tower " + number + "+2!1"), 1);
            Check.due("tower " + number, relay.positionOf(0), position);
        }
        for (String number : new String[] {"32", "33", "40", "64", "99"}) {
            CommandBounds.dueFailed(new SmokeRelay(), "ground " + number + "*7", 0);
            CommandBounds.dueFailed(new SmokeRelay(), "tower " + number + "+2!1", 0);
        }
    }

    private static String written(String form) {
        return form.replace(DIGIT, '0').replace(LETTER, 'p');
    }

    /** A form with one sign left out is none of the forms, but for a digit of a number and the sign of a wind. */
    private static void oneSignTooFew() {
        for (String form : FORMS) {
            String whole = written(form);
            CommandBounds.dueMalformed(new SmokeRelay(), whole + " ", whole.length());
            CommandBounds.dueMalformed(new SmokeRelay(), " " + whole, 0);
            CommandBounds.dueMalformed(new SmokeRelay(), whole + whole, whole.length());
            CommandBounds.dueMalformed(new SmokeRelay(), whole.substring(0, whole.length() - 1), whole.length() - 1);
            for (int place = 0; place < form.length(); place++) {
                String left = whole.substring(0, place) + whole.substring(place + 1);
                boolean mayBeLeft = form.startsWith("##", place) || form.startsWith("#", place)
                        && place > 0 && form.charAt(place - 1) == DIGIT || form.charAt(place) == '-';
                SmokeRelay relay = new SmokeRelay();
                Check.feedText(relay, left);
                String got = "well-formed";
                try {
                    relay.execute();
                } catch (IllegalArgumentException e) {
                    got = "malformed";
                } catch (UnsupportedOperationException e) {
                    got = "well-formed";
                }
                Check.dueText("'" + left + "'", got, mayBeLeft ? "well-formed" : "malformed");
            }
        }
    }

    /** After each beginning of a form each sign is tried; it is malformed there unless some form goes on with it. */
    private static void errorPositions() {
        List<String> beginnings = new ArrayList<>();
        for (String form : FORMS) {
            for (int length = 0; length <= form.length(); length++) {
                if (!beginnings.contains(form.substring(0, length))) {
                    beginnings.add(form.substring(0, length));
                }
            }
        }
        for (String beginning : beginnings) {
            for (String before : new String[] {"", "wind 3;", "wind 1;wind 2;"}) {
                dueEndsTooEarly(before, beginning);
                for (int sign = 0; sign < 256; sign++) {
                    dueSign(before, beginning, (char) sign);
                }
                for (char sign : new char[] {(char) 0x130, (char) 0x161, (char) 0x663, (char) 0xFF13, (char) 0xFFFF}) {
                    dueSign(before, beginning, sign);
                }
            }
        }
    }

    private static boolean isForm(String beginning) {
        return List.of(FORMS).contains(beginning);
    }

    private static boolean goesOn(String beginning, char sign) {
        boolean isDigit = sign >= '0' && sign <= '9';
        boolean isLetter = sign >= 'a' && sign <= 'p';
        for (String form : FORMS) {
            if (form.startsWith(beginning) && form.length() > beginning.length()) {
                char next = form.charAt(beginning.length());
                if (next == DIGIT ? isDigit : next == LETTER ? isLetter : next == sign) {
                    return true;
                }
            }
        }
        return isForm(beginning) && sign == ';';
    }

    private static void dueEndsTooEarly(String before, String beginning) {
        if (!isForm(beginning)) {
            String text = before + written(beginning);
            CommandBounds.dueMalformed(new SmokeRelay(), text, text.length());
        }
    }

    /** No form goes on with the same sign to its very end, so the text is malformed, there or further on. */
    private static void dueSign(String before, String beginning, char sign) {
        String text = before + written(beginning);
        String told = "'" + text + "' and twice " + (int) sign;
        SmokeRelay relay = new SmokeRelay();
        Check.feedText(relay, text + sign + sign);
        Check.fails(told, IllegalArgumentException.class, relay::execute);
        if (goesOn(beginning, sign)) {
            Check.due("error position of " + told + " is further on", relay.errorPosition() > text.length(), true);
        } else {
            Check.due("error position of " + told, relay.errorPosition(), text.length());
        }
    }

    private static void otherKeywords() {
        String[] keywords = {"ground", "tower", "mood", "wind", "send"};
        String[] rests = {" 0*0", " 0+1!0", " 0!0", " 0", " 0>0:a"};
        for (int keyword = 0; keyword < 5; keyword++) {
            String word = keywords[keyword];
            for (int place = 0; place < word.length(); place++) {
                String upper = word.substring(0, place) + Character.toUpperCase(word.charAt(place))
                        + word.substring(place + 1);
                CommandBounds.dueMalformed(new SmokeRelay(), upper + rests[keyword], place);
                String other = word.substring(0, place) + "x" + word.substring(place + 1);
                CommandBounds.dueMalformed(new SmokeRelay(), other + rests[keyword], place);
            }
            CommandBounds.dueMalformed(new SmokeRelay(), word + "s" + rests[keyword], word.length());
            CommandBounds.dueMalformed(new SmokeRelay(), word + " " + rests[keyword], word.length() + 1);
            CommandBounds.dueMalformed(new SmokeRelay(), word, word.length());
        }
    }

    private static void dueChanges(String call, Consumer<SmokeRelay> made, int more) {
        SmokeRelay relay = Bounds.rowOf(0, 6);
        relay.save();
        made.accept(relay);
        Check.due("changes after " + call, relay.undoCount(), 2 + more);
    }

    private static void whatIsAChange() {
        dueChanges("setGround", relay -> relay.setGround(0, 5), 1);
        dueChanges("setGround as it is", relay -> relay.setGround(0, 0), 1);
        dueChanges("addTower", relay -> relay.addTower(1, 5, 0), 1);
        dueChanges("setMood", relay -> relay.setMood(0, 2), 1);
        dueChanges("setMood as it is", relay -> relay.setMood(0, 0), 1);
        dueChanges("setWind", relay -> relay.setWind(-9), 1);
        dueChanges("setWind as it is", relay -> relay.setWind(0), 1);
        dueChanges("send", relay -> relay.send(0, 1, 'a'), 1);
        dueChanges("send to itself", relay -> relay.send(1, 1, 'a'), 1);
        dueChanges("execute of one", relay -> Check.executeText(relay, "wind 0"), 1);
        dueChanges("execute of four", relay -> Check.executeText(relay, "wind 1;mood 0!1;wind 2;send 0>1:a"), 1);
        dueChanges("undo", SmokeRelay::undo, -1);
        dueChanges("restore", SmokeRelay::restore, -2);
        whatIsNoChange();
    }

    private static void whatIsNoChange() {
        dueChanges("save", SmokeRelay::save, 0);
        dueChanges("feed", relay -> relay.feed('w'), 0);
        dueChanges("writing", relay -> {
            relay.writeTower(0);
            relay.writeRelay(0, 1);
            relay.writePattern(3);
        }, 0);
        dueChanges("asking", relay -> {
            relay.wouldBeRefused(0, 1, 'a');
            relay.isConsistent();
            relay.bestCost();
            relay.fewestWatchers();
            relay.nextPattern(0, 'a');
            relay.relayDelay(0, 1);
        }, 0);
        dueChanges("setGround that fails", relay -> Bounds.fails(() -> relay.setGround(32, 0)), 0);
        dueChanges("addTower that fails", relay -> Bounds.fails(() -> relay.addTower(0, 1, 0)), 0);
        dueChanges("setMood that fails", relay -> Bounds.fails(() -> relay.setMood(0, 4)), 0);
        dueChanges("setWind that fails", relay -> Bounds.fails(() -> relay.setWind(10)), 0);
        dueChanges("send that fails", relay -> Bounds.fails(() -> relay.send(0, 2, 'a')), 0);
        dueChanges("execute of nothing", relay -> Bounds.fails(relay::execute), 0);
        dueChanges("execute that fails",
                relay -> Bounds.fails(() -> Check.executeText(relay, "wind 1;mood 0!1;mood 2!1")), 0);
    }

    /** Each number of changes is followed by each number of undone ones and by more changes. */
    private static void latestEightChanges() {
        for (int changes = 0; changes <= 18; changes++) {
            for (int undone = 0; undone <= Math.min(changes, 8); undone++) {
                for (int more = 0; more <= 9; more++) {
                    dueUndo(changes, undone, more);
                }
            }
        }
    }

    private static void dueUndo(int changes, int undone, int more) {
        String run = changes + " changes, " + undone + " undone and " + more + " more: ";
        SmokeRelay relay = new SmokeRelay();
        List<Integer> winds = new ArrayList<>(List.of(0));
        for (int change = 0; change < changes; change++) {
            winds.add(change % 9 + 1);
            relay.setWind(change % 9 + 1);
        }
        for (int time = 0; time < undone; time++) {
            winds.remove(winds.size() - 1);
            relay.undo();
        }
        for (int change = 0; change < more; change++) {
            winds.add(-change);
            relay.setWind(-change);
        }
        int left = Math.min(Math.min(changes, 8) - undone + more, 8);
        Check.due(run + "undoCount", relay.undoCount(), left);
        while (left > 0) {
            left--;
            winds.remove(winds.size() - 1);
            Check.due(run + "undo", relay.undo(), left);
            Check.due(run + "wind", relay.wind(), winds.get(winds.size() - 1));
        }
        Check.fails(run + "undo at the end", IllegalStateException.class, relay::undo);
    }

    private static void whatUndoLeaves() {
        String[] kept = {"wind", "ground", "tower", "sent", "undo", "saved"};
        String due = Asked.without(Asked.of(Bounds.village()), kept);
        for (int times = 1; times <= 8; times++) {
            SmokeRelay relay = Bounds.village();
            for (int time = 0; time < times; time++) {
                relay.undo();
            }
            Check.dueText("after undo", Asked.without(Asked.of(relay), kept), due);
        }
        SmokeRelay saved = Bounds.village();
        saved.save();
        Check.dueText("after saving", Asked.without(Asked.of(saved), kept), due);
        SmokeRelay restored = Bounds.village();
        restored.restore();
        Check.dueText("after restoring", Asked.without(Asked.of(restored), kept), due);
        SmokeRelay later = new SmokeRelay();
        later.save();
        Check.feedText(later, "wind 3");
        later.restore();
        Check.due("a text fed after saving", later.execute(), 1);
        Check.due("wind", later.wind(), 3);
    }

    /** A call of each kind; the numbers just outside of the limits are tried where the limits are told. */
    private static void failedCallsChangeNothing() {
        Bounds.refused("setGround", IllegalArgumentException.class, relay -> relay.setGround(0, 10));
        Bounds.refused("addTower", IllegalArgumentException.class, relay -> relay.addTower(1, 0, 0));
        Bounds.refused("addTower", IllegalStateException.class, relay -> relay.addTower(0, 1, 0));
        Bounds.refused("setMood", IndexOutOfBoundsException.class, relay -> relay.setMood(4, 0));
        Bounds.refused("setMood", IllegalArgumentException.class, relay -> relay.setMood(0, 4));
        Bounds.refused("setWind", IllegalArgumentException.class, relay -> relay.setWind(10));
        Bounds.refused("send", IndexOutOfBoundsException.class, relay -> relay.send(0, 4, 'a'));
        Bounds.refused("send", IllegalArgumentException.class, relay -> relay.send(0, 1, 'q'));
        Bounds.refused("writeTower", IndexOutOfBoundsException.class, relay -> relay.writeTower(4));
        Bounds.refused("writeRelay", NoSuchElementException.class, relay -> relay.writeRelay(0, 3));
        Bounds.refused("writePattern", IllegalArgumentException.class, relay -> relay.writePattern(256));
        Bounds.refused("feed", CommandTermBounds::withFullBuffer, IllegalStateException.class,
                relay -> relay.feed('x'));
        Bounds.refused("undo", CommandTermBounds::allUndone, IllegalStateException.class, SmokeRelay::undo);
        Bounds.refused("restore", Bounds::fullRow, IllegalStateException.class, SmokeRelay::restore);
    }

    private static SmokeRelay withFullBuffer() {
        SmokeRelay relay = Bounds.village();
        while (relay.feed('1') < 60) {
            relay.towerCount();
        }
        return relay;
    }

    private static SmokeRelay allUndone() {
        SmokeRelay relay = Bounds.village();
        while (relay.undo() > 0) {
            relay.towerCount();
        }
        return relay;
    }

    private static void firstCondition() {
        Class<IndexOutOfBoundsException> noTower = IndexOutOfBoundsException.class;
        Class<IllegalArgumentException> noArgument = IllegalArgumentException.class;
        Bounds.refused("addTower of mood 4 in a full row", Bounds::fullRow, noArgument,
                relay -> relay.addTower(1, 1, 4));
        Bounds.refused("addTower of height 0 at a tower", noArgument, relay -> relay.addTower(0, 0, 0));
        Bounds.refused("addTower at 32 in a full row", Bounds::fullRow, noArgument, relay -> relay.addTower(32, 1, 0));
        Bounds.refused("setMood to 4 of none", noTower, relay -> relay.setMood(4, 4));
        Bounds.refused("towerAt(32)", noArgument, relay -> relay.towerAt(32));
        Bounds.refused("seesPosition(4, 32)", noTower, relay -> relay.seesPosition(4, 32));
        Bounds.refused("delay(4, 4)", noTower, relay -> relay.delay(4, 4));
        Bounds.refused("relayTower(4, 0, 9)", noTower, relay -> relay.relayTower(4, 0, 9));
        Bounds.refused("relayTower(3, 4, 9)", noTower, relay -> relay.relayTower(3, 4, 9));
        Bounds.refused("read(256)", noArgument, relay -> relay.read(256));
        Bounds.refused("readBySearch(-1)", noArgument, relay -> relay.readBySearch(-1));
        Bounds.refused("nextPattern(4, 'q')", noTower, relay -> relay.nextPattern(4, 'q'));
        Bounds.refused("send(0, 4, 'q')", noTower, relay -> relay.send(0, 4, 'q'));
        Bounds.refused("send without relay", noArgument, relay -> relay.send(0, 3, 'q'));
        Bounds.refused("send of a garbler", noArgument, relay -> relay.send(1, 0, '`'));
        Bounds.refused("wouldBeRefused(4, 0, 'q')", noTower, relay -> relay.wouldBeRefused(4, 0, 'q'));
        Bounds.refused("wouldBeRefused(0, 3, 'q')", noArgument, relay -> relay.wouldBeRefused(0, 3, 'q'));
        Bounds.refused("logLetter(4, 9)", noTower, relay -> relay.logLetter(4, 9));
        SmokeRelay relay = new SmokeRelay();
        CommandBounds.dueMalformed(relay, "mood 9!9;mood 9!", 16);
        Check.fails("no failed command of a malformed text", NoSuchElementException.class, relay::failedCommand);
    }
}
