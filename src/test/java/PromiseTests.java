/** Each promise by hand-made cases: ordinary inputs, the edges that the document names, wrong inputs. */
final class PromiseTests extends Bench {
    // Two effects whose first ticks are worked out by hand in EXAMPLE_AFTER and EXAMPLE_COUNTS.
    private static final String EXAMPLE = "E2" + "080" + "100" + "20" + "00" + "05"
        + "5" + "0900" + "0100" + "200" + "25" + "00"
        + "4" + "0400" + "0100" + "050" + "10" + "06";
    // The first one: power 50, vapor 50 - 50 * 10 / 200 = 48, 12 of them bled. The second one: heat 36,
    // power 400 / 16 = 25, vapor 25 - 25 * 20 / 200 = 23, 2 of them bled. Flows: 179 + 21 and 40 + 10.
    private static final int[][] EXAMPLE_AFTER = {
        {5, 773, 99, 200, 25, 0, 48, 0, 11, 50},
        {4, 516, 111, 50, 10, 6, 46, 0, 17, 25}};
    private static final int[] EXAMPLE_COUNTS = {80, 71, 14, 21, 45, 100, 20, 40, 10, 0};

    // Steady: each tick boils 68 (90 - 90 * 50 / 200) and is fed 68, so the growth is 340 a tick.
    private static final String SCALING = "E2" + "090" + "068" + "00" + "00" + "05"
        + "9" + "1000" + "1000" + "000" + "00" + "00"
        + "5" + "0000" + "0000" + "000" + "00" + "00";
    // Steady: the growth is 5 a tick, so the scale becomes 1 in the tick 200.
    private static final String SLOW = "E2" + "010" + "010" + "00" + "00" + "05"
        + "5" + "0950" + "0050" + "000" + "00" + "00"
        + "5" + "0000" + "0000" + "000" + "00" + "00";
    // Pure water, no flows: the vapor of an effect is the smaller one of heat and power (90 without scale).
    private static final String CLEAN = "E2" + "050" + "000" + "00" + "00" + "05"
        + "9" + "4000" + "0000" + "000" + "00" + "00"
        + "9" + "4000" + "0000" + "000" + "00" + "00";
    // The same with scale: the power is 900 / 35 = 25 now and 90 after five ticks of washing.
    private static final String SCALED = "E2" + "090" + "000" + "00" + "00" + "05"
        + "9" + "4000" + "0000" + "000" + "00" + "25"
        + "9" + "4000" + "0000" + "000" + "00" + "25";
    private static final String SIX = "E6" + "100" + "050" + "05" + "00" + "03"
        + "1" + "0100" + "0010" + "010" + "00" + "00"
        + "2" + "0200" + "0020" + "020" + "10" + "01"
        + "3" + "0300" + "0030" + "030" + "20" + "02"
        + "4" + "0400" + "0040" + "040" + "30" + "03"
        + "5" + "0500" + "0050" + "050" + "40" + "04"
        + "6" + "0600" + "0060" + "060" + "50" + "05";

    private PromiseTests() {
    }

    public static void main(String[] args) {
        newObject();
        append();
        clearText();
        errorPosition();
        errorPositionInEachNumber();
        load();
        about();
        total();
        effect();
        neighbor();
        economyAndShare();
        tick();
        tickBoils();
        tickFlows();
        tickFeeds();
        tickScales();
        tickWashes();
        tickTurns();
        set();
        setValveAndBleed();
        wash();
        endWash();
        undo();
        undoOfEachAction();
        ahead();
        growth();
        washGain();
        bestTurns();
        bestTurnsOthers();
        scaledAfter();
        steamFor();
        runScript();
        runScriptFails();
        simulate();
        saveAndRestore();
        forecastsChangeNothing();
        failedCallsChangeNothing();
        Due.end("PromiseTests");
    }

    // ---- the object and its text

    private static void newObject() {
        EffectTrain train = new EffectTrain();
        aboutIs("new", train, 2, 100, 90, 10, 0, 5, 0, 0, 0, 0);
        countsAre("new", train, 0, 0, 0, 0, 0, 0, 0, 0, 0, 0);
        effectIs("new", train, 0, 5, 0, 0, 50, 0, 0, 0, 0, 0, 50);
        effectIs("new", train, 1, 5, 0, 0, 50, 0, 0, 0, 0, 0, 50);
        Due.index("new effect 2", () -> train.effect(2, 0));
        Due.same("new errorPosition", 0, train.errorPosition());
        Due.same("new clearText", 0, train.clearText());
        Due.state("new load", train::load);
        Due.state("new undo", train::undo);
        Due.state("new restore 0", () -> train.restore(0));
        Due.state("new restore 1", () -> train.restore(1));
        Due.same("NONE", NONE, EffectTrain.NONE);
        EffectTrain other = new EffectTrain();
        other.tick(9);
        Due.same("objects are apart", 0, train.about(6));
    }

    private static void append() {
        EffectTrain train = new EffectTrain();
        for (int wrong : new int[] {-1, 256, MIN, MAX}) {
            Due.argument("append " + wrong, () -> train.append(wrong));
        }
        Due.call("append 0", 1, () -> train.append(0));
        Due.call("append 255", 2, () -> train.append(255));
        for (int k = 3; k <= 120; k++) {
            Due.same("append the character " + k, k, train.append('E'));
        }
        Due.state("append the character 121", () -> train.append('E'));
        Due.argument("append a wrong character to a full text", () -> train.append(256));
        Due.argument("append -1 to a full text", () -> train.append(-1));
        Due.same("the full text's length", 120, train.clearText());
        Due.same("append after clearText", 1, train.append('E'));
    }

    private static void clearText() {
        EffectTrain train = new EffectTrain();
        type(train, "E2x");
        Due.same("clearText", 3, train.clearText());
        Due.same("clearText again", 0, train.clearText());
        Due.same("errorPosition of the cleared text", 0, train.errorPosition());
        type(train, EXAMPLE);
        Due.same("clearText of a whole text", 46, train.clearText());
        Due.state("load of the cleared text", train::load);
        for (int length = 0; length < EXAMPLE.length(); length++) {
            EffectTrain retyped = typed(EXAMPLE);
            type(retyped, EXAMPLE.substring(0, length));
            Due.same("errorPosition, characters from before the clearing", length, retyped.errorPosition());
        }
    }

    private static void positionIs(int due, String text) {
        EffectTrain train = new EffectTrain();
        type(train, text);
        Due.same("errorPosition of " + text, due, train.errorPosition());
        boolean loads = !"throws.IllegalStateException".equals(Due.outcome(train::load));
        Due.same("load of " + text + " goes", due == NONE, loads);
    }

    private static void errorPosition() {
        positionIs(0, "");
        positionIs(0, "e2");
        positionIs(0, "2");
        positionIs(1, "E");
        positionIs(2, "E2");
        positionIs(NONE, EXAMPLE);
        positionIs(NONE, SIX);
        positionIs(46, EXAMPLE + "0");
        positionIs(46, EXAMPLE + "E");
        positionIs(46, EXAMPLE + " and more");
        positionIs(110, SIX + "0");
        for (int length = 0; length < EXAMPLE.length(); length++) {
            positionIs(length, EXAMPLE.substring(0, length));
        }
        // n = 3 wants sixteen more characters, n = 2 none
        positionIs(46, "E3" + EXAMPLE.substring(2));
        positionIs(94, "E5" + SIX.substring(2));
        for (int place = 1; place < EXAMPLE.length(); place++) {
            for (char wrong : new char[] {'/', ':', 0, 255, 'E', ' ', '-'}) {
                positionIs(place, EXAMPLE.substring(0, place) + wrong + EXAMPLE.substring(place + 1));
            }
        }
    }

    /** The edges of each number, and the very digit from which on no allowed number is left. */
    private static void errorPositionInEachNumber() {
        positionIs(1, "E1" + EXAMPLE.substring(2));
        positionIs(1, "E0" + EXAMPLE.substring(2));
        positionIs(1, "E7" + EXAMPLE.substring(2));
        spoilt(NONE, 2, "000");
        spoilt(NONE, 2, "999");
        spoilt(NONE, 5, "999");
        spoilt(NONE, 8, "99");
        spoilt(NONE, 10, "99");
        spoilt(NONE, 10, "00");
        spoilt(13, 12, "00");
        spoilt(NONE, 12, "01");
        spoilt(NONE, 12, "20");
        spoilt(13, 12, "21");
        spoilt(13, 12, "29");
        spoilt(12, 12, "30");
        spoilt(12, 12, "99");
        spoilt(14, 14, "0");
        spoilt(NONE, 14, "1");
        spoilt(NONE, 14, "9");
        spoilt(NONE, 15, "0000");
        spoilt(NONE, 15, "4000");
        spoilt(18, 15, "4001");
        spoilt(17, 15, "4010");
        spoilt(16, 15, "4100");
        spoilt(15, 15, "5000");
        spoilt(NONE, 15, "3999");
        spoilt(NONE, 19, "1000");
        spoilt(22, 19, "1001");
        spoilt(21, 19, "1010");
        spoilt(20, 19, "1100");
        spoilt(19, 19, "2000");
        spoilt(NONE, 19, "0999");
        spoilt(NONE, 23, "999");
        spoilt(NONE, 26, "90");
        spoilt(27, 26, "91");
        spoilt(NONE, 26, "89");
        spoilt(NONE, 28, "99");
        // the first error is told, also if others follow
        spoilt(12, 12, "30" + "0" + "5000");
        spoilt(43, 42, "99");
        positionIs(13, EXAMPLE.substring(0, 12) + "0");
        positionIs(13, EXAMPLE.substring(0, 12) + "2");
        positionIs(13, EXAMPLE.substring(0, 12) + "21");
    }

    /** EXAMPLE with another text at a place. */
    private static void spoilt(int due, int place, String part) {
        positionIs(due, EXAMPLE.substring(0, place) + part + EXAMPLE.substring(place + part.length()));
    }

    private static void load() {
        EffectTrain train = new EffectTrain();
        train.tick(7);
        train.wash(0, 20);
        train.save(0);
        train.save(1);
        type(train, EXAMPLE);
        Due.same("load", 1500, train.load());
        aboutIs("loaded", train, 2, 80, 100, 20, 0, 5, 0, 0, 1300, 200);
        countsAre("loaded", train, 0, 0, 0, 0, 0, 0, 0, 0, 0, 0);
        effectIs("loaded", train, 0, 5, 900, 100, 200, 25, 0, 0, 0, 10, 50);
        effectIs("loaded", train, 1, 4, 400, 100, 50, 10, 6, 0, 0, 20, 25);
        Due.state("undo after load", train::undo);
        Due.state("restore 0 after load", () -> train.restore(0));
        Due.state("restore 1 after load", () -> train.restore(1));
        Due.same("the text is kept", NONE, train.errorPosition());
        train.tick(30);
        Due.same("load again", 1500, train.load());
        Due.same("growth after load again", 0, train.effect(0, 6));
        type(train, SIX);
        Due.same("load of six", 2310, train.load());
        aboutIs("six", train, 6, 100, 50, 5, 0, 3, 0, 0, 2100, 210);
        effectIs("six", train, 5, 6, 600, 60, 60, 50, 5, 0, 0, 9, 40);
        Due.index("six: effect 6", () -> train.effect(6, 0));
        train.tick(2);
        train.save(0);
        String before = look(train);
        type(train, "E1");
        Due.state("load of a wrong text", train::load);
        Due.same("after the load that failed", before, look(train));
        Due.call("slots after the load that failed", 2, () -> train.restore(0));
        Due.same("the text after the load that failed", 2, train.clearText());
        type(train, EXAMPLE);
        train.load();
        Due.index("two again: effect 2", () -> train.effect(2, 0));
        Due.same("full train", 10000, train(CLEAN.replace("40000000", "40001000")).about(8)
            + train(CLEAN.replace("40000000", "40001000")).about(9));
    }

    // ---- what there is

    private static void about() {
        EffectTrain train = train(SIX);
        aboutIs("six", train, 6, 100, 50, 5, 0, 3, 0, 0, 2100, 210);
        train.wash(1, 1);
        train.wash(3, 2);
        Due.same("two are washed", 2, train.about(7));
        train.tick(1);
        Due.same("one is washed", 1, train.about(7));
        Due.same("the clock", 1, train.about(6));
        train.set(3, 17);
        train.set(4, 19);
        Due.same("the interval", 17, train.about(4));
        Due.same("the length", 19, train.about(5));
        for (int wrong : new int[] {-1, 10, MIN, MAX}) {
            Due.argument("about " + wrong, () -> train.about(wrong));
        }
    }

    private static void total() {
        EffectTrain train = train(EXAMPLE);
        train.tick(1);
        countsAre("the example", train, EXAMPLE_COUNTS);
        train.set(1, 999);
        train.set(2, 99);
        train.tick(99);
        Due.same("water is kept", 1300 + train.total(5), train.about(8) + train.total(1) + train.total(7));
        Due.same("solids are kept", 200 + train.total(6), train.about(9) + train.total(8));
        Due.same("heat is kept", train.total(0), train.total(2) + train.total(3) + train.total(4));
        for (int wrong : new int[] {-1, 10, MIN, MAX}) {
            Due.argument("total " + wrong, () -> train.total(wrong));
        }
    }

    private static void effect() {
        EffectTrain train = train(SIX);
        train.wash(4, 20);
        effectIs("six", train, 4, 5, 500, 50, 50, 40, 4, 0, 20, 9, 35);
        effectIs("six", train, 0, 1, 100, 10, 10, 0, 0, 0, 0, 9, 10);
        for (int wrong : new int[] {-1, 6, NONE, MIN, MAX}) {
            Due.index("effect of " + wrong, () -> train.effect(wrong, 0));
            Due.index("effect of " + wrong + " with a wrong what", () -> train.effect(wrong, 10));
        }
        for (int wrong : new int[] {-1, 10, MIN, MAX}) {
            Due.argument("effect 5, " + wrong, () -> train.effect(5, wrong));
        }
        effectIs("no amount", new EffectTrain(), 0, 5, 0, 0, 50, 0, 0, 0, 0, 0, 50);
        EffectTrain solid = train(EXAMPLE.replace("09000100", "00000001"));
        effectIs("solids alone", solid, 0, 5, 0, 1, 200, 25, 0, 0, 0, 100, 50);
        EffectTrain old = train(EXAMPLE.replace("1006", "1099"));
        Due.same("the least power", 3, old.effect(1, 9));
    }

    private static void neighbor() {
        EffectTrain train = train(SIX);
        Due.same("behind 0", 1, train.neighbor(0, true));
        Due.same("before 0", NONE, train.neighbor(0, false));
        Due.same("behind 5", NONE, train.neighbor(5, true));
        Due.same("before 5", 4, train.neighbor(5, false));
        train.wash(1, 5);
        train.wash(2, 5);
        train.wash(5, 5);
        Due.same("behind 0 over washed ones", 3, train.neighbor(0, true));
        Due.same("before 3 over washed ones", 0, train.neighbor(3, false));
        Due.same("behind 4, the rest is washed", NONE, train.neighbor(4, true));
        Due.same("behind the washed 1", 3, train.neighbor(1, true));
        Due.same("before the washed 2", 0, train.neighbor(2, false));
        Due.same("before the washed 5", 4, train.neighbor(5, false));
        train.wash(0, 5);
        Due.same("before 3, the rest is washed", NONE, train.neighbor(3, false));
        for (int wrong : new int[] {-1, 6, MIN, MAX}) {
            Due.index("neighbor of " + wrong, () -> train.neighbor(wrong, true));
            Due.index("neighbor of " + wrong, () -> train.neighbor(wrong, false));
        }
    }

    private static void economyAndShare() {
        EffectTrain train = train(EXAMPLE);
        Due.same("economy without steam", 0f, train.economy());
        Due.same("share 0", 100f / 1000f, train.share(0));
        Due.same("share 1", 100f / 500f, train.share(1));
        train.tick(1);
        Due.same("economy", 71f / 80f, train.economy());
        Due.same("share 0 after a tick", 99f / 872f, train.share(0));
        Due.same("share 1 after a tick", 111f / 627f, train.share(1));
        Due.index("share -1", () -> train.share(-1));
        Due.index("share 2", () -> train.share(2));
        Due.index("share of the greatest number", () -> train.share(MAX));
        EffectTrain empty = new EffectTrain();
        Due.same("share without any amount", 0f, empty.share(1));
        empty.set(0, 0);
        empty.tick(5);
        Due.same("economy of no steam at all", 0f, empty.economy());
        EffectTrain least = train(CLEAN);
        least.set(0, 1);
        least.tick(1);
        Due.same("economy of the least steam", 2f, least.economy());
        Due.same("share of one unit", 1f, train(EXAMPLE.replace("09000100", "00000001")).share(0));
    }

    // ---- actions

    private static void tick() {
        EffectTrain train = train(EXAMPLE);
        for (int wrong : new int[] {0, -1, 100, MIN, MAX}) {
            Due.argument("tick " + wrong, () -> train.tick(wrong));
        }
        Due.same("tick 1", 71, train.tick(1));
        effectIs("after a tick", train, 0, EXAMPLE_AFTER[0]);
        effectIs("after a tick", train, 1, EXAMPLE_AFTER[1]);
        countsAre("after a tick", train, EXAMPLE_COUNTS);
        Due.same("the clock", 1, train.about(6));
        Due.same("undo of a tick", 0, train.undo());
        Due.same("the clock again", 0, train.about(6));
        EffectTrain steps = train(EXAMPLE);
        int vapor = 0;
        for (int k = 0; k < 99; k++) {
            vapor += steps.tick(1);
        }
        Due.same("tick 99", vapor, train.tick(99));
        Due.same("99 ticks at once", look(steps), look(train));
        Due.same("ticks together are one action", 0, train.undo());
        Due.same("nothing boils at first", 0, new EffectTrain().tick(1));
    }

    private static void tickBoils() {
        EffectTrain dry = train(EXAMPLE.replace("09000100", "00300000"));
        dry.tick(1);
        Due.same("the vapor is at most the water", 30 + 21, dry.total(1));
        Due.same("the heat that a dry effect loses", 50 + 2, dry.total(4));
        EffectTrain weak = train(EXAMPLE.replace("E2080", "E2010"));
        Due.same("the vapor is at most the heat", 10 + 8, weak.tick(1));
        EffectTrain none = train(EXAMPLE);
        none.wash(0, 2);
        none.wash(1, 2);
        Due.same("nothing works", 0, none.tick(1));
        countsAre("nothing works", none, 0, 0, 0, 0, 0, 0, 0, 0, 0, 1);
        EffectTrain second = train(EXAMPLE);
        second.wash(0, 2);
        Due.same("steam comes to the first that works", 23, second.tick(1));
        countsAre("without the first one", second, 80, 23, 2, 21, 57, 100, 20, 40, 10, 0);
        effectIs("the washed one keeps", second, 0, 5, 900, 100, 200, 25, 0, 0, 1, 10, 50);
        EffectTrain first = train(EXAMPLE);
        first.wash(1, 2);
        Due.same("the last that works", 48, first.tick(1));
        countsAre("without the last one", first, 80, 48, 12, 36, 32, 100, 20, 179, 21, 0);
        EffectTrain middle = train("E3" + "050" + "000" + "00" + "00" + "05" + "9400000000000000"
            + "9400000000000000" + "9400000000000000");
        middle.wash(1, 1);
        Due.same("heat passes over a washed one", 100, middle.tick(1));
        Due.same("then all work", 150, middle.tick(1));
    }

    private static void tickFlows() {
        // valve 999 into a room of 50; the last one flows without a limit
        EffectTrain full = train("E2" + "000" + "000" + "00" + "00" + "05" + "5" + "3000" + "0600" + "999" + "0000"
            + "5" + "4000" + "0950" + "070" + "0000");
        full.tick(1);
        Due.same("the room limits, water", 3000 - 42, full.effect(0, 1));
        Due.same("the room limits, solids", 600 - 8, full.effect(0, 2));
        Due.same("the last one's water", 4000 + 42 - 57, full.effect(1, 1));
        Due.same("the last one's solids", 950 + 8 - 13, full.effect(1, 2));
        Due.same("product water", 57, full.total(7));
        Due.same("product solids", 13, full.total(8));
        // the room is that after boiling
        EffectTrain boiled = train("E2" + "050" + "000" + "00" + "00" + "05" + "9" + "4000" + "0000" + "999" + "0000"
            + "9" + "4000" + "1000" + "000" + "0000");
        Due.same("boiled", 50 + 45, boiled.tick(1));
        effectIs("the flow into the room after boiling", boiled, 0, 9, 4000 - 50 - 45, 0);
        effectIs("the room after boiling is full", boiled, 1, 9, 4000, 1000);
        // at most the amount
        EffectTrain little = train("E2" + "000" + "000" + "00" + "00" + "05" + "5" + "0007" + "0002" + "010" + "0000"
            + "5" + "0000" + "0000" + "010" + "0000");
        little.tick(1);
        effectIs("all has flowed", little, 0, 5, 0, 0);
        effectIs("all has come", little, 1, 5, 7, 2);
        Due.same("what comes flows on a tick later", 0, little.total(7));
        little.tick(1);
        effectIs("all has flowed out", little, 1, 5, 0, 0);
        Due.same("all product water", 7, little.total(7));
        Due.same("all product solids", 2, little.total(8));
        EffectTrain one = train(EXAMPLE.replace("09000100", "00000001"));
        one.tick(1);
        effectIs("one unit has flowed", one, 0, 5, 100, 20);
        // over a washed one
        EffectTrain over = train("E3" + "000" + "000" + "00" + "00" + "05" + "5010000000500000"
            + "5000500000500000" + "5000000000500000");
        over.wash(1, 2);
        over.tick(1);
        effectIs("a flow from", over, 0, 5, 50, 0);
        effectIs("a flow over", over, 1, 5, 5, 0);
        effectIs("a flow to", over, 2, 5, 50, 0);
        over.wash(2, 2);
        over.tick(1);
        Due.same("the last that works gives the product", 50, over.total(7));
    }

    private static void tickFeeds() {
        String fed = "E2" + "000" + "090" + "10" + "00" + "05" + "5" + "4000" + "0900" + "000" + "0000"
            + "5" + "4000" + "1000" + "000" + "0000";
        EffectTrain fits = train(fed);
        fits.tick(1);
        effectIs("the feed fits", fits, 0, 5, 4090, 910);
        countsAre("the feed fits", fits, 0, 0, 0, 0, 0, 90, 10, 0, 0, 0);
        fits.tick(1);
        effectIs("held back", fits, 0, 5, 4090, 910);
        countsAre("held back", fits, 0, 0, 0, 0, 0, 90, 10, 0, 0, 1);
        fits.set(1, 0);
        fits.set(2, 0);
        fits.tick(1);
        Due.same("a feed of nothing fits into no room", 1, fits.total(9));
        EffectTrain over = train(fed.replace("09010", "09011"));
        over.tick(1);
        countsAre("one too much", over, 0, 0, 0, 0, 0, 0, 0, 0, 0, 1);
        // the room is that before the flows
        EffectTrain flowing = train("E2" + "000" + "090" + "10" + "00" + "05" + "5" + "4000" + "1000" + "200" + "0000"
            + "5" + "0000" + "0000" + "000" + "0000");
        flowing.tick(1);
        effectIs("the room before the flows", flowing, 0, 5, 3840, 960);
        Due.same("held back before the flows", 1, flowing.total(9));
        EffectTrain nothing = train(fed.replace("09010", "00000"));
        nothing.wash(0, 1);
        nothing.wash(1, 1);
        nothing.tick(1);
        Due.same("held back also without any feed", 1, nothing.total(9));
        EffectTrain second = train(fed.replace("40001000000", "00000000000"));
        second.wash(0, 3);
        second.tick(2);
        effectIs("the first one that works is fed", second, 1, 5, 180, 20);
    }

    private static void tickScales() {
        EffectTrain train = train(SCALING);
        Due.same("vapor", 68, train.tick(1));
        Due.same("growth 1", 340, train.effect(0, 6));
        train.tick(1);
        Due.same("growth 2", 680, train.effect(0, 6));
        train.tick(1);
        Due.same("growth 3", 20, train.effect(0, 6));
        Due.same("scale 3", 1, train.effect(0, 5));
        Due.same("power 3", 81, train.effect(0, 9));
        // with scale 99 the power is 8: 8 - 8 * 50 / 200 = 6, 6 * 50 / 10 = 30
        EffectTrain old = train(SCALING.replace("10001000" + "000" + "00" + "00", "10001000" + "000" + "00" + "99"));
        old.set(1, 6);
        old.tick(34);
        Due.same("growth goes round at scale 99", 1020 - 1000, old.effect(0, 6));
        Due.same("scale 99 stays", 99, old.effect(0, 5));
    }

    private static void tickWashes() {
        EffectTrain train = train(EXAMPLE.replace("1006", "1012"));
        train.wash(1, 3);
        train.tick(1);
        effectIs("washed 1", train, 1, 4, 400, 100, 50, 10, 7, 0, 2);
        train.tick(1);
        effectIs("washed 2", train, 1, 4, 400, 100, 50, 10, 2, 0, 1);
        train.tick(1);
        effectIs("washed 3", train, 1, 4, 400, 100, 50, 10, 0, 0, 0);
        train.tick(1);
        Due.same("works again", true, train.effect(1, 1) != 400);
        EffectTrain growing = train(SCALING);
        growing.tick(2);
        growing.wash(0, 1);
        growing.tick(1);
        Due.same("the growth stays in a wash", 680, growing.effect(0, 6));
    }

    private static void tickTurns() {
        EffectTrain train = train(SIX);
        train.set(3, 4);
        train.tick(1);
        Due.same("the clock 0 counts: the last has the most scale", 2, train.effect(5, 7));
        Due.same("this tick washes already", 0, train.effect(5, 5));
        train.tick(2);
        Due.same("washed to the end", 0, train.effect(5, 7));
        train.tick(1);
        Due.same("none at the clock 3", 0, train.about(7));
        train.tick(1);
        Due.same("the next turn at the clock 4", 2, train.effect(4, 7));
        EffectTrain busy = train(SIX);
        busy.set(3, 1);
        busy.wash(0, 2);
        busy.tick(2);
        Due.same("no turn while one is washed", 0, busy.about(7));
        busy.tick(1);
        Due.same("a turn when all work", 2, busy.effect(5, 7));
        EffectTrain equal = train(SCALED);
        equal.set(3, 1);
        equal.set(4, 1);
        equal.tick(1);
        effectIs("the first among several", equal, 0, 9, 4000, 0, 0, 0, 20);
        effectIs("the other one", equal, 1, 9, 3975, 0, 0, 0, 25);
        equal.tick(1);
        effectIs("then the other one", equal, 1, 9, 3975, 0, 0, 0, 20);
        EffectTrain little = train(CLEAN.substring(0, 44) + "01");
        little.set(3, 1);
        Due.same("a turn for the scale 1", 50, little.tick(1));
        Due.same("it is washed", 4, little.effect(1, 7));
        EffectTrain clean = train(CLEAN);
        clean.set(3, 1);
        Due.same("no turn without scale", 100, clean.tick(1));
        EffectTrain off = train(SIX);
        off.tick(1);
        Due.same("no turn with the interval 0", 0, off.about(7));
        EffectTrain long20 = train(SIX);
        long20.set(3, 99);
        long20.set(4, 20);
        long20.tick(1);
        Due.same("the length is taken", 19, long20.effect(5, 7));
    }

    private static void set() {
        EffectTrain train = train(EXAMPLE);
        int[] least = {0, 0, 0, 0, 1};
        int[] greatest = {999, 999, 99, 99, 20};
        int[] before = {80, 100, 20, 0, 5};
        for (int k = 0; k <= 4; k++) {
            int what = k;
            Due.same("set " + k + " to the least", before[k], train.set(k, least[k]));
            Due.same("set " + k + " to the greatest", least[k], train.set(k, greatest[k]));
            Due.same("about " + k, greatest[k], train.about(1 + k));
            for (int wrong : new int[] {least[k] - 1, greatest[k] + 1, MIN, MAX}) {
                Due.argument("set " + k + " " + wrong, () -> train.set(what, wrong));
            }
        }
        for (int wrong : new int[] {-1, 5, MIN, MAX}) {
            Due.argument("set " + wrong, () -> train.set(wrong, 1));
        }
        aboutIs("all are set", train, 2, 999, 999, 99, 99, 20, 0, 0, 1300, 200);
    }

    private static void setValveAndBleed() {
        EffectTrain train = train(EXAMPLE);
        Due.same("setValve", 200, train.setValve(0, 0));
        Due.same("setValve back", 0, train.setValve(0, 999));
        Due.same("the valve", 999, train.effect(0, 3));
        Due.same("the other valve", 50, train.effect(1, 3));
        Due.same("setBleed", 10, train.setBleed(1, 0));
        Due.same("setBleed back", 0, train.setBleed(1, 90));
        Due.same("the bleed", 90, train.effect(1, 4));
        Due.same("the other bleed", 25, train.effect(0, 4));
        for (int wrong : new int[] {-1, 1000, MIN, MAX}) {
            Due.argument("setValve " + wrong, () -> train.setValve(1, wrong));
        }
        for (int wrong : new int[] {-1, 91, MIN, MAX}) {
            Due.argument("setBleed " + wrong, () -> train.setBleed(1, wrong));
        }
        for (int wrong : new int[] {-1, 2, MIN, MAX}) {
            Due.index("setValve of " + wrong, () -> train.setValve(wrong, 0));
            Due.index("setBleed of " + wrong, () -> train.setBleed(wrong, 0));
            Due.index("setValve of " + wrong + ", wrong", () -> train.setValve(wrong, 1000));
            Due.index("setBleed of " + wrong + ", wrong", () -> train.setBleed(wrong, 91));
        }
        train.wash(0, 5);
        Due.same("setValve of a washed one", 999, train.setValve(0, 1));
        Due.same("setBleed of a washed one", 25, train.setBleed(0, 1));
    }

    private static void wash() {
        EffectTrain train = train(SIX);
        Due.same("wash 5", 1, train.wash(5, 20));
        Due.same("wash 0", 2, train.wash(0, 1));
        effectIs("washed 5", train, 5, 6, 600, 60, 60, 50, 5, 0, 20);
        effectIs("washed 0", train, 0, 1, 100, 10, 10, 0, 0, 0, 1);
        Due.state("wash 5 again", () -> train.wash(5, 1));
        Due.state("wash 0 in its last tick", () -> train.wash(0, 1));
        Due.argument("wash the washed 5 for 0", () -> train.wash(5, 0));
        for (int wrong : new int[] {0, -1, 21, MIN, MAX}) {
            Due.argument("wash for " + wrong, () -> train.wash(1, wrong));
        }
        for (int wrong : new int[] {-1, 6, MIN, MAX}) {
            Due.index("wash " + wrong, () -> train.wash(wrong, 5));
            Due.index("wash " + wrong + " for 0", () -> train.wash(wrong, 0));
        }
        train.tick(1);
        Due.call("wash 0 after its wash", 2, () -> train.wash(0, 1));
    }

    private static void endWash() {
        EffectTrain train = train(SIX);
        Due.state("endWash of one that works", () -> train.endWash(2));
        for (int wrong : new int[] {-1, 6, MIN, MAX}) {
            Due.index("endWash " + wrong, () -> train.endWash(wrong));
        }
        train.wash(2, 20);
        train.tick(3);
        Due.call("endWash", 17, () -> train.endWash(2));
        Due.same("it works", 0, train.effect(2, 7));
        Due.state("endWash again", () -> train.endWash(2));
        Due.call("it can be washed at once", 1, () -> train.wash(2, 1));
    }

    private static void undo() {
        EffectTrain train = new EffectTrain();
        for (int v = 0; v < 20; v++) {
            train.set(0, v);
        }
        for (int k = 13; k >= 0; k--) {
            Due.same("undo", k, train.undo());
            Due.same("the steam after undo", k + 5, train.about(1));
        }
        Due.state("undo without a state", train::undo);
        Due.same("the steam after all", 5, train.about(1));
        train.set(0, 5);
        Due.call("a change into the same is an action", 0, train::undo);
        for (int v = 0; v < 13; v++) {
            train.set(1, v);
        }
        Due.same("undo of 13", 12, train.undo());
        train.set(1, 77);
        train.set(1, 78);
        Due.same("undo of 14", 13, train.undo());
        Due.same("the feed", 77, train.about(2));
        Due.same("undo of 13", 12, train.undo());
        Due.same("the feed before", 11, train.about(2));
    }

    private static void undoOfEachAction() {
        EffectTrain train = train(EXAMPLE);
        String start = look(train);
        train.tick(50);
        train.set(3, 7);
        train.setValve(1, 700);
        train.setBleed(0, 70);
        train.wash(0, 9);
        train.endWash(0);
        String end = look(train);
        for (int k = 5; k >= 0; k--) {
            Due.same("undo", k, train.undo());
        }
        Due.same("all taken back", start, look(train));
        train.tick(50);
        train.set(3, 7);
        train.setValve(1, 700);
        train.setBleed(0, 70);
        Due.same("all once more", end, look(train));
        train.append('x');
        train.undo();
        Due.same("the text is not part of the state", 46 + 1, train.clearText());
        train.save(0);
        train.undo();
        train.undo();
        Due.same("undo of all", 0, train.undo());
        Due.same("the clock before all", 0, train.about(6));
        Due.call("slots are not part of the state", 50, () -> train.restore(0));
    }

    // ---- forecasts

    private static void ahead() {
        EffectTrain train = train(EXAMPLE);
        for (int i = 0; i < 2; i++) {
            for (int what = 0; what <= 9; what++) {
                Due.same("ahead " + i + " 1 " + what, EXAMPLE_AFTER[i][what], train.ahead(i, 1, what));
                Due.same("ahead " + i + " 0 " + what, train.effect(i, what), train.ahead(i, 0, what));
            }
        }
        EffectTrain later = train(EXAMPLE);
        later.tick(99);
        Due.same("ahead 99", later.effect(1, 2), train.ahead(1, 99, 2));
        for (int wrong : new int[] {-1, 100, MIN, MAX}) {
            Due.argument("ahead by " + wrong, () -> train.ahead(0, wrong, 1));
            Due.index("ahead of -1 by " + wrong, () -> train.ahead(-1, wrong, 1));
        }
        for (int wrong : new int[] {-1, 10, MIN, MAX}) {
            Due.argument("ahead for " + wrong, () -> train.ahead(0, 1, wrong));
            Due.index("ahead of 2 for " + wrong, () -> train.ahead(2, 1, wrong));
        }
        Due.index("ahead of 2", () -> train.ahead(2, 0, 0));
    }

    private static void growth() {
        EffectTrain train = train(EXAMPLE);
        for (int what = 0; what <= 9; what++) {
            Due.same("growth 1 " + what, EXAMPLE_COUNTS[what], train.growth(1, what));
        }
        train.tick(40);
        int[] before = new int[10];
        int[] grown = new int[10];
        for (int what = 0; what <= 9; what++) {
            before[what] = train.total(what);
            grown[what] = train.growth(99, what);
        }
        train.tick(99);
        for (int what = 0; what <= 9; what++) {
            Due.same("growth 99 " + what, train.total(what) - before[what], grown[what]);
        }
        for (int wrong : new int[] {0, -1, 100, MIN, MAX}) {
            Due.argument("growth in " + wrong, () -> train.growth(wrong, 0));
        }
        for (int wrong : new int[] {-1, 10, MIN, MAX}) {
            Due.argument("growth of " + wrong, () -> train.growth(1, wrong));
        }
    }

    private static void washGain() {
        EffectTrain train = train(SCALED);
        // 50 a tick without a wash; 25 in a wash of the first one, then 90 + 25
        Due.same("washGain in the wash", 5 * -25, train.washGain(0, 5, 5));
        Due.same("washGain after it", 5 * -25 + 65, train.washGain(0, 5, 6));
        Due.same("washGain of the second one", -25, train.washGain(1, 5, 1));
        // a long wash in which all is lost
        Due.same("washGain of 20", -25 * 20, train.washGain(0, 20, 20));
        // a wash of one tick: the power becomes 900 / 30 = 30
        Due.same("washGain of 1", -25 + 5, train.washGain(0, 1, 2));
        train.wash(0, 2);
        Due.state("washGain of a washed one", () -> train.washGain(0, 5, 5));
        Due.argument("washGain of a washed one for 0", () -> train.washGain(0, 0, 5));
        Due.argument("washGain of a washed one in 0", () -> train.washGain(0, 5, 0));
        Due.same("washGain of the only one that works", 2 * -25, train.washGain(1, 2, 2));
        for (int wrong : new int[] {0, 21, -1, MIN, MAX}) {
            Due.argument("washGain for " + wrong, () -> train.washGain(1, wrong, 5));
            Due.index("washGain of 2 for " + wrong, () -> train.washGain(2, wrong, 5));
        }
        for (int wrong : new int[] {0, 100, -1, MIN, MAX}) {
            Due.argument("washGain in " + wrong, () -> train.washGain(1, 5, wrong));
            Due.index("washGain of -1 in " + wrong, () -> train.washGain(-1, 5, wrong));
        }
        Due.call("washGain at its edges", train.washGain(1, 20, 99), () -> train.washGain(1, 20, 99));
    }

    private static void bestTurns() {
        EffectTrain train = train(SCALED);
        Due.same("1 turn: no wash", -1, train.bestTurns(1, true));
        Due.same("1 turn: 50 a tick", 250, train.bestTurns(1, false));
        // wash the first one (25 a tick), then 90 + 25 a tick
        Due.same("2 turns: the first one", 0, train.bestTurns(2, true));
        Due.same("2 turns: the vapor", 125 + 575, train.bestTurns(2, false));
        // one turn for each of them, whichever comes first, then 90 + 90 a tick
        Due.same("3 turns: the smallest effect", 0, train.bestTurns(3, true));
        Due.same("3 turns: the vapor", 125 + 450 + 900, train.bestTurns(3, false));
        for (int wrong : new int[] {0, 4, -1, MIN, MAX}) {
            Due.argument("bestTurns " + wrong, () -> train.bestTurns(wrong, true));
            Due.argument("bestTurns " + wrong, () -> train.bestTurns(wrong, false));
        }
    }

    private static void bestTurnsOthers() {
        // the first one of two lets only 500 / 109 = 4 through
        EffectTrain clogged = train("E2" + "050" + "000" + "00" + "00" + "05"
            + "5400000000000099" + "5400000000000000");
        Due.same("a clogged first one is washed at once", 0, clogged.bestTurns(1, true));
        Due.same("the other one gets the steam", 250, clogged.bestTurns(1, false));
        clogged.wash(0, 20);
        Due.same("a washed one can't be washed", -1, clogged.bestTurns(3, true));
        Due.same("it is washed all the time", 750, clogged.bestTurns(3, false));
        clogged.endWash(0);
        clogged.wash(0, 1);
        // scale 94 after it: 500 / 104 = 4
        Due.same("its wash can't be made longer", 50 + 4 * 8, clogged.bestTurns(1, false));
        clogged.endWash(0);
        clogged.wash(0, 5);
        Due.same("it is washed in a later turn", 250 + 250 + 250, clogged.bestTurns(3, false));
        Due.same("none at first", -1, clogged.bestTurns(3, true));
        EffectTrain third = train("E3" + "050" + "000" + "00" + "00" + "05" + "5400000000000000" + "5400000000000000"
            + "5000000000000099");
        Due.same("none among equals", -1, third.bestTurns(2, true));
        Due.same("what none gives", 1000, third.bestTurns(2, false));
        EffectTrain second = train("E2" + "040" + "000" + "00" + "00" + "05" + "9400000000000000" + "9400000000000025");
        // 40 + 25 a tick without a wash; the second one washed: 40, then 80 a tick
        Due.same("3 turns, the second one", 1, second.bestTurns(3, true));
        Due.same("3 turns, the second one's vapor", 200 + 400 + 400, second.bestTurns(3, false));
        EffectTrain turning = train(SCALED);
        turning.set(3, 99);
        // the interval washes the first one now in any case, unless another wash keeps it from doing so
        Due.same("the interval goes on", 125, turning.bestTurns(1, false));
        Due.same("the interval goes on, none", -1, turning.bestTurns(1, true));
        Due.same("the interval goes on, 2 turns", 125 + 575, turning.bestTurns(2, false));
    }

    private static void scaledAfter() {
        EffectTrain train = train(SCALING);
        Due.same("scale 1", 3, train.scaledAfter(0, 1));
        Due.same("no solids", NONE, train.scaledAfter(1, 1));
        train.tick(2);
        Due.same("scale 1 a tick later", 1, train.scaledAfter(0, 1));
        train.tick(1);
        Due.same("scale 1 now", 0, train.scaledAfter(0, 1));
        EffectTrain slow = train(SLOW);
        Due.same("200 ticks", 200, slow.scaledAfter(0, 1));
        Due.same("scale 2", NONE, slow.scaledAfter(0, 2));
        slow.wash(0, 1);
        Due.same("201 ticks", NONE, slow.scaledAfter(0, 1));
        EffectTrain scaled = train(SCALED);
        Due.same("less than there is", 0, scaled.scaledAfter(1, 24));
        Due.same("as much as there is", 0, scaled.scaledAfter(1, 25));
        Due.same("more than there is", NONE, scaled.scaledAfter(1, 26));
        Due.same("the most", NONE, scaled.scaledAfter(1, 99));
        for (int wrong : new int[] {0, 100, -1, MIN, MAX}) {
            Due.argument("scaledAfter " + wrong, () -> scaled.scaledAfter(0, wrong));
            Due.index("scaledAfter of 2, " + wrong, () -> scaled.scaledAfter(2, wrong));
        }
        Due.index("scaledAfter of -1", () -> scaled.scaledAfter(-1, 1));
    }

    private static void steamFor() {
        EffectTrain train = train(CLEAN);
        Due.same("none is needed", 0, train.steamFor(0, 1));
        Due.same("vapor 1", 1, train.steamFor(1, 1));
        Due.same("vapor 2", 1, train.steamFor(2, 1));
        Due.same("vapor 3", 2, train.steamFor(3, 1));
        Due.same("all vapor", 90, train.steamFor(180, 1));
        Due.same("too much vapor", NONE, train.steamFor(181, 1));
        Due.same("20 ticks", 90, train.steamFor(3600, 20));
        Due.same("20 ticks, too much", NONE, train.steamFor(3601, 20));
        Due.same("the greatest vapor", NONE, train.steamFor(9999, 20));
        for (int wrong : new int[] {-1, 10000, MIN, MAX}) {
            Due.argument("steamFor " + wrong, () -> train.steamFor(wrong, 1));
        }
        for (int wrong : new int[] {0, -1, 21, MIN, MAX}) {
            Due.argument("steamFor in " + wrong, () -> train.steamFor(1, wrong));
        }
        // 22: 20 + 15, then 18 + 13; 23: 21 + 15, then 17 + 12 (the water of the first one is too little)
        EffectTrain less = train("E2" + "023" + "001" + "00" + "00" + "05" + "5" + "0040" + "0013" + "004" + "0000"
            + "2" + "0050" + "0058" + "008" + "0000");
        Due.same("more steam, less vapor", 65, less.growth(2, 1));
        Due.same("the smallest steam", 22, less.steamFor(66, 2));
    }

    // ---- scripts, simulations

    private static void runScript() {
        EffectTrain train = train(EXAMPLE);
        Due.same("a tick", NONE, train.runScript(1, 10001L));
        Due.same("99 ticks", NONE, train.runScript(1, 10099L));
        Due.same("a tick uses 80 of steam", NONE, train.runScript(2, 10001_80080L));
        Due.same("a tick uses no less", 1, train.runScript(2, 10001_80079L));
        Due.same("the steam becomes 999", NONE, train.runScript(3, 20999_10001_80999L));
        Due.same("the steam becomes 999, no less", 2, train.runScript(3, 20999_10001_80998L));
        Due.same("the steam becomes 0", NONE, train.runScript(3, 20000_10099_80000L));
        Due.same("thickness", NONE, train.runScript(1, 51020L));
        Due.same("thickness 21", 0, train.runScript(1, 51021L));
        Due.same("thickness of the first one", 0, train.runScript(1, 50011L));
        // 17 after a tick without another valve; 90 of 427 with the valve 0; 21 of 200 with the valve 999
        Due.same("the valve 50", NONE, train.runScript(2, 10001_51017L));
        Due.same("the valve 50, thickness 18", 1, train.runScript(2, 10001_51018L));
        Due.same("the valve 0", NONE, train.runScript(3, 30000_10001_51021L));
        Due.same("the valve 999", NONE, train.runScript(3, 31999_10001_51010L));
        Due.same("the valve 999, thickness 11", 2, train.runScript(3, 31999_10001_51011L));
        Due.same("scale 6", NONE, train.runScript(1, 61006L));
        Due.same("scale 5", 0, train.runScript(1, 61005L));
        Due.same("scale 0", NONE, train.runScript(1, 60000L));
        Due.same("scale 99", NONE, train.runScript(1, 61099L));
        Due.same("a wash alone", NONE, train.runScript(1, 41020L));
        Due.same("a wash of one in its last tick", 1, train.runScript(2, 41001_41001L));
        Due.same("a wash", NONE, train.runScript(3, 41001_70001_61006L));
        Due.same("a wash and a tick", NONE, train.runScript(3, 41002_10001_61001L));
        Due.same("a wash and its end", NONE, train.runScript(3, 41020_10020_70000L));
        Due.same("a wash of a washed one", 1, train.runScript(2, 41020_41020L));
        Due.same("both are washed", NONE, train.runScript(3, 40001_41001_70002L));
        Due.same("none is washed", NONE, train.runScript(1, 70000L));
        train.wash(1, 3);
        Due.same("one is washed", NONE, train.runScript(1, 70001L));
        Due.same("not one is washed", 0, train.runScript(1, 70000L));
        train.tick(2);
        Due.same("what was used before counts", NONE, train.runScript(1, 80160L));
        Due.same("what was used before counts, too", 0, train.runScript(1, 80159L));
    }

    private static void runScriptFails() {
        EffectTrain train = train(EXAMPLE);
        int[] groups = {0, 1, 9999, 10000, 10100, 11001, 19999, 21000, 29999, 32000, 39999, 40000, 40021, 40099,
            40101, 42001, 50100, 52000, 59000, 60100, 62000, 70010, 70100, 71000, 70001, 81000, 89999, 90000, 99999};
        for (int group : groups) {
            Due.same("the group " + group, 0, train.runScript(1, group));
            Due.same("the group " + group + " as the second one", 1, train.runScript(2, 10001_00000L + group));
            Due.same("the group " + group + " as the third one", 2, train.runScript(3, 10001_10001_00000L + group));
        }
        Due.same("the first of two that fail", 0, train.runScript(2, 90000_90000L));
        Due.same("zeros before it", 0, train.runScript(2, 10001L));
        Due.same("zeros before it, three", 0, train.runScript(3, 10001_10001L));
        for (int wrong : new int[] {0, 4, -1, MIN, MAX}) {
            Due.argument("runScript of " + wrong, () -> train.runScript(wrong, 10001L));
        }
        Due.argument("a negative script", () -> train.runScript(1, -1L));
        Due.argument("the least script", () -> train.runScript(3, Long.MIN_VALUE));
        Due.argument("the greatest script", () -> train.runScript(3, Long.MAX_VALUE));
        Due.argument("6 digits", () -> train.runScript(1, 100000L));
        Due.argument("11 digits", () -> train.runScript(2, 10000000000L));
        Due.argument("16 digits", () -> train.runScript(3, 1000000000000000L));
        Due.argument("digits that an int would lose", () -> train.runScript(1, (1L << 32) + 10001L));
        Due.call("5 digits", 0, () -> train.runScript(1, 99999L));
        Due.call("10 digits", 0, () -> train.runScript(2, 9999999999L));
        Due.call("15 digits", 0, () -> train.runScript(3, 999999999999999L));
    }

    /** Does on the train itself, with its actions, what a simulation does on a copy. */
    private static int played(EffectTrain train, long seed, int m) {
        long x = seed;
        int vapor = 0;
        for (int round = 0; round < m; round++) {
            x = x * 6364136223846793005L + 1442695040888963407L;
            int r = (int) (x >>> 33);
            int i = r / 4 % train.about(0);
            if (r % 4 == 0) {
                train.setValve(i, r / 64 % 200);
            } else if (r % 4 == 1) {
                train.set(0, r / 64 % 400);
            } else if (r % 4 == 2 && train.effect(i, 7) == 0) {
                train.wash(i, 5);
            }
            vapor += train.tick(1);
        }
        return vapor;
    }

    private static void simulate() {
        long[] seeds = {0, 1, -1, 42, 1234567890123456789L, Long.MIN_VALUE, Long.MAX_VALUE};
        for (long seed : seeds) {
            for (int m : new int[] {1, 2, 7, 99}) {
                Due.same("simulate " + seed + " " + m, played(train(SIX), seed, m), train(SIX).simulate(seed, m));
                Due.same("simulate two " + seed + " " + m, played(train(EXAMPLE), seed, m),
                    train(EXAMPLE).simulate(seed, m));
            }
        }
        EffectTrain train = train(SIX);
        for (int wrong : new int[] {0, -1, 100, MIN, MAX}) {
            Due.argument("simulate " + wrong, () -> train.simulate(1L, wrong));
        }
    }

    // ---- save slots

    private static void saveAndRestore() {
        EffectTrain train = train(EXAMPLE);
        for (int wrong : new int[] {-1, 2, MIN, MAX}) {
            Due.index("save " + wrong, () -> train.save(wrong));
            Due.index("restore " + wrong, () -> train.restore(wrong));
        }
        Due.state("restore of nothing", () -> train.restore(0));
        train.tick(3);
        String three = look(train);
        Due.same("save 1", 3, train.save(1));
        Due.state("restore of the other slot", () -> train.restore(0));
        Due.same("save is no action", 0, train.undo());
        train.tick(9);
        train.wash(1, 4);
        String nine = look(train);
        Due.same("save 0", 9, train.save(0));
        Due.call("restore 1", 3, () -> train.restore(1));
        Due.same("restored 1", three, look(train));
        Due.state("undo after restore", train::undo);
        train.tick(5);
        Due.call("restore 1 again", 3, () -> train.restore(1));
        Due.same("the slot keeps its state", three, look(train));
        Due.call("restore 0", 9, () -> train.restore(0));
        Due.same("restored 0", nine, look(train));
        train.setBleed(0, 33);
        Due.state("restore of a slot that is not there", () -> new EffectTrain().restore(1));
        Due.call("undo after restore and an action", 0, train::undo);
        Due.same("restored and undone", nine, look(train));
        train.save(1);
        train.tick(1);
        Due.call("save over an older state", 9, () -> train.restore(1));
        Due.same("the text is not part of the slots", NONE, train.errorPosition());
    }

    private static void forecastsChangeNothing() {
        EffectTrain train = train(SIX);
        train.tick(40);
        train.wash(3, 9);
        String before = look(train);
        train.ahead(2, 99, 5);
        train.growth(99, 1);
        train.washGain(1, 20, 99);
        train.bestTurns(3, false);
        train.bestTurns(2, true);
        train.scaledAfter(5, 99);
        train.steamFor(9999, 20);
        train.runScript(3, 10001_20999_30999L);
        train.simulate(5L, 99);
        train.neighbor(3, true);
        train.save(0);
        Due.same("after forecasts", before, look(train));
        Due.same("forecasts are no actions", 1, train.undo());
        Due.same("forecasts are no actions", 0, train.undo());
    }

    private static void failedCallsChangeNothing() {
        EffectTrain train = train(SIX);
        train.tick(40);
        train.wash(3, 9);
        String before = look(train);
        Due.argument("tick", () -> train.tick(100));
        Due.argument("set", () -> train.set(4, 0));
        Due.argument("setValve", () -> train.setValve(0, 1000));
        Due.argument("setBleed", () -> train.setBleed(0, 91));
        Due.index("setBleed", () -> train.setBleed(6, 1));
        Due.state("wash", () -> train.wash(3, 1));
        Due.state("endWash", () -> train.endWash(0));
        Due.state("restore", () -> train.restore(1));
        Due.argument("append", () -> train.append(256));
        Due.same("after calls that failed", before, look(train));
        Due.same("calls that fail are no actions", 1, train.undo());
        Due.same("calls that fail are no actions", 0, train.undo());
        Due.state("undo", train::undo);
        Due.same("the text after calls that failed", 110, train.clearText());
    }
}
