/** The section TEXT of the document, and the promises 2 (append) to 5 (load). */
final class TextTests extends Bench {
    // Where the numbers stand: those of the head, and those of the effect 0; each next effect stands 16 further.
    private static final int N = 1;
    private static final int STEAM = 2;
    private static final int FEED_WATER = 5;
    private static final int FEED_SOLIDS = 8;
    private static final int INTERVAL = 10;
    private static final int LENGTH = 12;
    private static final int AREA = 14;
    private static final int WATER = 15;
    private static final int SOLIDS = 19;
    private static final int VALVE = 23;
    private static final int BLEED = 26;
    private static final int SCALE = 28;
    private static final int EACH = 16;
    private static final String SIX = text(100, 50, 5, 0, 3, effect(1, 100, 10, 10, 0, 0),
        effect(2, 200, 20, 20, 10, 1), effect(3, 300, 30, 30, 20, 2), effect(4, 400, 40, 40, 30, 3),
        effect(5, 500, 50, 50, 40, 4), effect(6, 600, 60, 60, 50, 5));

    private TextTests() {
    }

    private static void positionIs(int due, String text) {
        EffectTrain train = typed(text);
        Due.same("errorPosition of " + text, due, train.errorPosition());
        boolean loads = !Due.STATE.equals(Due.outcome(train::load));
        Due.same("load of " + text + " goes", due == NONE, loads);
    }

    private static String with(String text, int at, String part) {
        return text.substring(0, at) + part + text.substring(at + part.length());
    }

    private static boolean anyBegins(String start, int digits, int least, int greatest) {
        for (int number = least; number <= greatest; number++) {
            if (String.format("%0" + digits + "d", number).startsWith(start)) {
                return true;
            }
        }
        return false;
    }

    /** How many characters a number has up to the first digit that no allowed number begins with; NONE if none. */
    private static int wrongDigit(String number, int least, int greatest) {
        for (int length = 1; length <= number.length(); length++) {
            if (!anyBegins(number.substring(0, length), number.length(), least, greatest)) {
                return length - 1;
            }
        }
        return NONE;
    }

    /** The ends of a number's range, the numbers beside them, and all that differ from those in one digit. */
    private static void numberIs(int at, int digits, int least, int greatest) {
        int all = 1;
        for (int d = 0; d < digits; d++) {
            all *= 10;
        }
        for (int end : new int[] {least - 1, least, least + 1, greatest - 1, greatest, greatest + 1, 0, all - 1}) {
            for (int one = 1; one < all; one *= 10) {
                for (int digit = 0; digit <= 9 && end >= 0 && end < all; digit++) {
                    int number = end - end / one % 10 * one + digit * one;
                    String written = String.format("%0" + digits + "d", number);
                    int wrong = wrongDigit(written, least, greatest);
                    positionIs(wrong == NONE ? NONE : at + wrong, with(BUSY, at, written));
                }
            }
        }
        for (int d = 0; d < digits; d++) {
            for (char odd : new char[] {'/', ':', 0, 255, ' ', '-', 'E', 'a'}) {
                positionIs(at + d, with(BUSY, at + d, String.valueOf(odd)));
            }
            positionIs(at + d, BUSY.substring(0, at + d));
        }
    }

    private static void numberOfEachEffectIs(int at, int digits, int least, int greatest) {
        numberIs(at, digits, least, greatest);
        numberIs(at + EACH, digits, least, greatest);
        String above = String.format("%0" + digits + "d", greatest + 1);
        if (above.length() == digits) {
            int last = at + 5 * EACH;
            positionIs(last + wrongDigit(above, least, greatest), with(SIX, last, above));
        }
    }

    // ---- the text

    @Sentence(in = "TEXT", says = "The object has a text buffer of at most 120 characters.")
    static void theTextHasAtMost120Characters() {
        EffectTrain train = new EffectTrain();
        Due.same("the length at first", 0, train.clearText());
        for (int k = 1; k <= 120; k++) {
            Due.call("append the character " + k, k, () -> train.append('7'));
        }
        Due.state("append the character 121", () -> train.append('7'));
        Due.state("append the character 121 again", () -> train.append('7'));
        Due.same("the full length", 120, train.clearText());
    }

    @Sentence(in = "TEXT", says = "A text is the letter E,")
    static void aTextBeginsWithE() {
        positionIs(NONE, BUSY);
        for (char odd : new char[] {'e', 'D', 'F', '2', ' ', 0, 255}) {
            positionIs(0, with(BUSY, 0, String.valueOf(odd)));
        }
        positionIs(0, BUSY.substring(1));
        positionIs(1, "E" + BUSY);
    }

    @Sentence(in = "TEXT", says = "a digit for n (2 to 6),")
    static void nIs2To6() {
        positionIs(1, with(BUSY, N, "0"));
        positionIs(1, with(BUSY, N, "1"));
        positionIs(NONE, BUSY);
        positionIs(NONE, SIX);
        positionIs(1, with(SIX, N, "7"));
        positionIs(1, with(SIX, N, "8"));
        positionIs(1, with(SIX, N, "9"));
        for (char odd : new char[] {'/', ':', 0, 255, ' ', 'E'}) {
            positionIs(1, with(SIX, N, String.valueOf(odd)));
        }
        // so many effects are due, not more and not less
        for (int n = 2; n <= 6; n++) {
            String text = "E" + n + SIX.substring(2, AREA + n * EACH);
            positionIs(NONE, text);
            positionIs(text.length() - 1, text.substring(0, text.length() - 1));
            positionIs(text.length(), text + "1");
        }
    }

    @Sentence(in = "TEXT", says = "three digits for the steam,")
    static void threeDigitsForTheSteam() {
        numberIs(STEAM, 3, 0, 999);
    }

    @Sentence(in = "TEXT", says = "three for the feed of water,")
    static void threeDigitsForTheFeedOfWater() {
        numberIs(FEED_WATER, 3, 0, 999);
    }

    @Sentence(in = "TEXT", says = "two for the feed of solids,")
    static void twoDigitsForTheFeedOfSolids() {
        numberIs(FEED_SOLIDS, 2, 0, 99);
    }

    @Sentence(in = "TEXT", says = "two for the interval,")
    static void twoDigitsForTheInterval() {
        numberIs(INTERVAL, 2, 0, 99);
    }

    @Sentence(in = "TEXT", says = "two for the length (01 to 20),")
    static void lengthIs01To20() {
        numberIs(LENGTH, 2, 1, 20);
        positionIs(LENGTH + 1, with(BUSY, LENGTH, "00"));
        positionIs(NONE, with(BUSY, LENGTH, "01"));
        positionIs(NONE, with(BUSY, LENGTH, "20"));
        positionIs(LENGTH + 1, with(BUSY, LENGTH, "21"));
        positionIs(LENGTH, with(BUSY, LENGTH, "30"));
    }

    @Sentence(in = "TEXT", says = "and for each effect a digit for the area (1 to 9),")
    static void areaIs1To9() {
        numberOfEachEffectIs(AREA, 1, 1, 9);
        positionIs(AREA, with(BUSY, AREA, "0"));
        positionIs(AREA + 5 * EACH, with(SIX, AREA + 5 * EACH, "0"));
    }

    @Sentence(in = "TEXT", says = "four digits for the water (0000 to 4000),")
    static void waterIs0000To4000() {
        numberOfEachEffectIs(WATER, 4, 0, 4000);
        positionIs(NONE, with(BUSY, WATER, "4000"));
        positionIs(WATER + 3, with(BUSY, WATER, "4001"));
        positionIs(WATER + 2, with(BUSY, WATER, "4010"));
        positionIs(WATER + 1, with(BUSY, WATER, "4100"));
        positionIs(WATER, with(BUSY, WATER, "5000"));
    }

    @Sentence(in = "TEXT", says = "four for the solids (0000 to 1000),")
    static void solidsAre0000To1000() {
        numberOfEachEffectIs(SOLIDS, 4, 0, 1000);
        positionIs(NONE, with(BUSY, SOLIDS, "1000"));
        positionIs(SOLIDS + 3, with(BUSY, SOLIDS, "1001"));
        positionIs(SOLIDS + 2, with(BUSY, SOLIDS, "1010"));
        positionIs(SOLIDS + 1, with(BUSY, SOLIDS, "1100"));
        positionIs(SOLIDS, with(BUSY, SOLIDS, "2000"));
    }

    @Sentence(in = "TEXT", says = "three for the valve,")
    static void threeDigitsForTheValve() {
        numberOfEachEffectIs(VALVE, 3, 0, 999);
    }

    @Sentence(in = "TEXT", says = "two for the bleed (00 to 90)")
    static void bleedIs00To90() {
        numberOfEachEffectIs(BLEED, 2, 0, 90);
        positionIs(NONE, with(BUSY, BLEED, "00"));
        positionIs(NONE, with(BUSY, BLEED, "90"));
        positionIs(BLEED + 1, with(BUSY, BLEED, "91"));
        positionIs(BLEED + 1, with(BUSY, BLEED, "99"));
    }

    @Sentence(in = "TEXT", says = "and two for the scale.")
    static void twoDigitsForTheScale() {
        numberOfEachEffectIs(SCALE, 2, 0, 99);
    }

    @Sentence(in = "TEXT", says = {"The text is read from left to right.",
        "The error position is the index of the first character that these rules do not allow at its place"})
    static void theFirstOfSeveralErrorsIsTold() {
        String wrong = with(with(with(BUSY, LENGTH, "00"), WATER, "9999"), SCALE, "xx");
        positionIs(LENGTH + 1, wrong);
        positionIs(WATER, with(wrong, LENGTH, "01"));
        positionIs(SCALE, with(with(wrong, LENGTH, "01"), WATER, "0000"));
        positionIs(0, with(wrong, 0, "x"));
        positionIs(LENGTH + 1, wrong + wrong);
        // what is too much is not allowed at its place either
        positionIs(46, BUSY + "E");
        positionIs(46, BUSY + "0");
        positionIs(46, BUSY + BUSY);
        positionIs(110, SIX + "0");
        positionIs(110, SIX + "0123456789");
    }

    @Sentence(in = "TEXT",
        says = "(a digit is not allowed if no number that is allowed begins with it and those before it);")
    static void aDigitThatNoAllowedNumberBeginsWith() {
        positionIs(LENGTH, with(BUSY, LENGTH, "3"));
        positionIs(LENGTH + 1, with(BUSY, LENGTH, "29"));
        positionIs(WATER + 3, with(BUSY, WATER, "4009"));
        positionIs(SOLIDS + 3, with(BUSY, SOLIDS, "1009"));
        // the same digits when nothing follows them: the text is wrong there, it does not end too soon
        positionIs(LENGTH, with(BUSY, LENGTH, "3").substring(0, LENGTH + 1));
        positionIs(LENGTH + 1, with(BUSY, LENGTH, "00").substring(0, LENGTH + 2));
        positionIs(WATER, with(BUSY, WATER, "5").substring(0, WATER + 1));
        positionIs(LENGTH + 1, BUSY.substring(0, LENGTH) + "2");
        positionIs(LENGTH + 1, BUSY.substring(0, LENGTH) + "0");
    }

    @Sentence(in = "TEXT", says = "if the text ends too soon, it is the length of the text.")
    static void aTextThatEndsTooSoon() {
        for (int length = 0; length < BUSY.length(); length++) {
            positionIs(length, BUSY.substring(0, length));
        }
        for (int length = 0; length < SIX.length(); length++) {
            positionIs(length, SIX.substring(0, length));
        }
        positionIs(46, with(BUSY, N, "3"));
        // not a character of an earlier, longer text is seen
        for (int length = 0; length < BUSY.length(); length++) {
            EffectTrain train = typed(BUSY);
            type(train, BUSY.substring(0, length));
            Due.same("errorPosition after a longer text", length, train.errorPosition());
            Due.state("load after a longer text", train::load);
        }
    }

    // ---- append

    @Sentence(in = "Promise 2",
        says = {"Appends a character to the text buffer.", "Returns the new length of the text."})
    static void appendReturnsTheNewLength() {
        EffectTrain train = new EffectTrain();
        for (int k = 0; k < BUSY.length(); k++) {
            int at = k;
            Due.same("errorPosition before the character " + at, at, train.errorPosition());
            Due.call("append the character " + at, at + 1, () -> train.append(BUSY.charAt(at)));
        }
        Due.same("errorPosition of the whole text", NONE, train.errorPosition());
    }

    @Sentence(in = "Promise 2", says = "`c`: character code, 0 to 255")
    static void appendTakes0To255() {
        EffectTrain train = new EffectTrain();
        Due.call("append 0", 1, () -> train.append(0));
        Due.call("append 255", 2, () -> train.append(255));
        Due.call("append 1", 3, () -> train.append(1));
        Due.call("append 254", 4, () -> train.append(254));
    }

    @Sentence(in = "Promise 2", says = "Throws `IllegalArgumentException` if c is out of range")
    static void appendOfACharacterOutOfRange() {
        for (int c : new int[] {-1, 256, MIN, MAX, 'E' + 256, 'E' + 65536, 'E' - 256}) {
            refusedArgument("append " + c, Bench::busy, x -> x.append(c));
            refusedArgument("append " + c, EffectTrain::new, x -> x.append(c));
        }
    }

    private static EffectTrain full() {
        EffectTrain train = train(BUSY);
        train.tick(9);
        for (int k = 46; k < 120; k++) {
            train.append('E');
        }
        return train;
    }

    @Sentence(in = "Promise 2", says = "Throws `IllegalStateException` if the text already has 120 characters")
    static void appendToAFullText() {
        for (int c : new int[] {0, 'E', 255}) {
            refusedState("append " + c + " to a full text", TextTests::full, x -> x.append(c));
        }
        EffectTrain train = full();
        Due.same("the full text", 46, train.errorPosition());
        train.clearText();
        Due.call("append after clearText", 1, () -> train.append('E'));
    }

    @Sentence(in = "Promise 2", says = {"Throws `IllegalArgumentException` if c is out of range",
        "Throws `IllegalStateException` if the text already has 120 characters"})
    static void appendOfAWrongCharacterToAFullText() {
        for (int c : new int[] {-1, 256}) {
            refusedArgument("append " + c + " to a full text", TextTests::full, x -> x.append(c));
        }
    }

    // ---- clearText and errorPosition

    @Sentence(in = "Promise 3", says = {"Empties the text buffer.", "Returns the previous length of the text."})
    static void clearTextReturnsThePreviousLength() {
        EffectTrain train = new EffectTrain();
        Due.same("clearText of an empty text", 0, train.clearText());
        train.append('E');
        Due.same("clearText of one character", 1, train.clearText());
        Due.same("clearText of the emptied text", 0, train.clearText());
        Due.same("errorPosition of the emptied text", 0, train.errorPosition());
        Due.state("load of the emptied text", train::load);
        Due.same("clearText of a full text", 120, full().clearText());
        EffectTrain cleared = full();
        cleared.clearText();
        for (int k = 1; k <= 120; k++) {
            int length = k;
            Due.call("append to the emptied text", length, () -> cleared.append('E'));
        }
        EffectTrain busy = busy();
        String before = look(busy);
        Due.same("clearText of a busy train", 46, busy.clearText());
        Due.same("what there is after it", before, look(busy));
        Due.same("it is no action", 13, busy.undo());
    }

    @Sentence(in = "Promise 4", says = {"Checks the text.",
        "Returns the error position of the text; NONE if it is a text as described above."})
    static void errorPositionChangesNothing() {
        Due.same("errorPosition of an empty text", 0, new EffectTrain().errorPosition());
        EffectTrain train = busy();
        String before = look(train);
        Due.same("errorPosition", NONE, train.errorPosition());
        Due.same("errorPosition again", NONE, train.errorPosition());
        train.append('x');
        Due.same("errorPosition of a longer text", 46, train.errorPosition());
        Due.same("what there is after it", before, look(train));
        Due.same("it is no action", 13, train.undo());
        Due.same("the text after it", 47, train.clearText());
    }

    // ---- load

    @Sentence(in = "Promise 5", says = "Replaces everything by what the text describes;")
    static void loadTakesTheLeastAndTheGreatestOfAllNumbers() {
        EffectTrain least = train(text(0, 0, 0, 0, 1, effect(1, 0, 0, 0, 0, 0), effect(1, 0, 0, 0, 0, 0)));
        aboutIs("the least", least, 2, 0, 0, 0, 0, 1, 0, 0, 0, 0);
        effectIs("the least", least, 0, 1, 0, 0, 0, 0, 0, 0, 0, 0, 10);
        effectIs("the least", least, 1, 1, 0, 0, 0, 0, 0, 0, 0, 0, 10);
        String[] effects = new String[6];
        java.util.Arrays.fill(effects, effect(9, 4000, 1000, 999, 90, 99));
        EffectTrain greatest = train(text(999, 999, 99, 99, 20, effects));
        aboutIs("the greatest", greatest, 6, 999, 999, 99, 99, 20, 0, 0, 24000, 6000);
        for (int i = 0; i < 6; i++) {
            effectIs("the greatest", greatest, i, 9, 4000, 1000, 999, 90, 99, 0, 0, 20, 8);
        }
        // from few effects to many and back
        EffectTrain train = train(BUSY);
        train.tick(30);
        train.wash(1, 20);
        type(train, SIX);
        train.load();
        Due.same("six loaded over two", look(six()), look(train));
        train.tick(30);
        train.wash(1, 20);
        type(train, BUSY);
        train.load();
        Due.same("two loaded over six", look(train(BUSY)), look(train));
        Due.index("effect 2 of two", () -> train.effect(2, 0));
    }

    @Sentence(in = "Promise 5", says = "all effects work, growths, the clock and all counts are 0.")
    static void loadBeginsAnew() {
        EffectTrain train = busy();
        train.wash(0, 20);
        Due.same("growth before load", true, train.effect(0, 6) > 0);
        Due.same("washed before load", 2, train.about(7));
        train.load();
        Due.same("what there is after load", look(train(OTHER)), look(train));
        eachIs("ticks left", train, 7, 0, 0);
        eachIs("growths", train, 6, 0, 0);
        Due.same("the clock", 0, train.about(6));
        countsAre("after load", train, 0, 0, 0, 0, 0, 0, 0, 0, 0, 0);
        train.tick(10);
        EffectTrain fresh = train(OTHER);
        fresh.tick(10);
        Due.same("ten ticks after load", look(fresh), look(train));
    }

    @Sentence(in = "Promise 5", says = "Forgets all remembered states and empties both save slots.")
    static void loadForgetsStatesAndSlots() {
        EffectTrain train = busy();
        train.load();
        Due.state("undo after load", train::undo);
        Due.state("restore 0 after load", () -> train.restore(0));
        Due.state("restore 1 after load", () -> train.restore(1));
        train.tick(1);
        Due.call("undo of an action after load", 0, train::undo);
        train.save(1);
        Due.state("restore 0 after load and save 1", () -> train.restore(0));
        Due.call("restore 1 after load and save 1", 0, () -> train.restore(1));
    }

    @Sentence(in = "Promise 5", says = "Keeps the text.")
    static void loadKeepsTheText() {
        EffectTrain train = busy();
        train.load();
        Due.same("errorPosition after load", NONE, train.errorPosition());
        train.tick(40);
        Due.call("load again", 1234 + 567 + 2345 + 678, train::load);
        Due.same("what there is after load again", look(train(OTHER)), look(train));
        Due.same("the text after load", 46, train.clearText());
    }

    @Sentence(in = "Promise 5", says = "Returns the sum of the amounts of all effects.")
    static void loadReturnsTheSumOfTheAmounts() {
        Due.call("load of nothing", 0, () -> typed(text(0, 0, 0, 0, 1, effect(1, 0, 0, 0, 0, 0),
            effect(1, 0, 0, 0, 0, 0))).load());
        Due.call("load of two units", 2, () -> typed(text(0, 0, 0, 0, 1, effect(1, 1, 0, 0, 0, 0),
            effect(1, 0, 1, 0, 0, 0))).load());
        String[] effects = new String[6];
        java.util.Arrays.fill(effects, effect(9, 4000, 1000, 999, 90, 99));
        Due.call("load of all that is possible", 30000, () -> typed(text(999, 999, 99, 99, 20, effects)).load());
        Due.call("load of six", 2310, () -> typed(SIX).load());
    }

    private static EffectTrain busyWith(String text) {
        EffectTrain train = busy();
        type(train, text);
        return train;
    }

    @Sentence(in = "Promise 5", says = "Throws `IllegalStateException` if the text is not as described above")
    static void loadOfAWrongText() {
        String[] wrong = {"", "E", BUSY.substring(0, 45), BUSY + "0", with(BUSY, 45, "x"), with(BUSY, N, "1"),
            with(BUSY, N, "3"), with(OTHER, LENGTH, "00"), with(OTHER, WATER + EACH, "4001"), "e2"};
        for (String text : wrong) {
            refusedState("load of \"" + text + "\"", () -> busyWith(text), EffectTrain::load);
        }
        refusedState("load of no text on a new object", EffectTrain::new, EffectTrain::load);
    }
}
