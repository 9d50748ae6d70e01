/** What the tests share: answers are compared, wrong ones printed, and the last line of a test ends it. */
final class Check {
    private static int calls = 0;
    private static int wrong = 0;
    private static String place = "";

    private Check() {
    }

    static void due(String what, long got, long want) {
        dueText(what, String.valueOf(got), String.valueOf(want));
    }

    static void due(String what, boolean got, boolean want) {
        dueText(what, String.valueOf(got), String.valueOf(want));
    }

    static void dueText(String what, String got, String want) {
        calls++;
        if (!got.equals(want)) {
            wrong++;
            System.out.println(place + what + " answered " + got + ", due is " + want);
        }
    }

    static void dueExactly(String what, double got, double want) {
        dueText(what, Double.toString(got), Double.toString(want));
    }

    /** The exception has to be of the very kind, not of a kind below it. */
    static void fails(String what, Class<? extends RuntimeException> kind, Runnable call) {
        String got = "nothing";
        try {
            call.run();
        } catch (RuntimeException e) {
            got = e.getClass().getName();
        }
        dueText(what + " throws", got, kind.getName());
    }

    /** Wrong answers within the test are printed behind the name of the place; one that breaks off is wrong, too. */
    static void within(String name, Runnable test) {
        place = name;
        String end = "whole";
        try {
            test.run();
        } catch (RuntimeException e) {
            end = "broken off by " + e + " at " + e.getStackTrace()[0];
        }
        dueText("the test", end, "whole");
        place = "";
    }

    static void feedText(SmokeRelay relay, String text) {
        for (char character : text.toCharArray()) {
            relay.feed(character);
        }
    }

    static int executeText(SmokeRelay relay, String text) {
        feedText(relay, text);
        return relay.execute();
    }

    /** The whole output, whose length must be the one that the writing call has told. */
    static String output(SmokeRelay relay, int length) {
        StringBuilder text = new StringBuilder();
        for (int index = 0; index < length; index++) {
            text.append(relay.outputCharacter(index));
        }
        fails("outputCharacter(" + length + ")", IndexOutOfBoundsException.class, () -> relay.outputCharacter(length));
        return text.toString();
    }

    static void finish(String name) {
        System.out.println(name + ": " + calls + " answers, " + wrong + " wrong");
        if (wrong != 0 || calls == 0) {
            System.exit(1);
        }
    }
}
