/** The promises 19 (ahead) to 24 (steamFor): forecasts. */
final class ForecastTests extends Bench {
    private static final String CLEAN = effect(9, 4000, 0, 0, 0, 0);
    private static final String DRY = effect(9, 0, 0, 0, 0, 0);
    private static final int[] NO_EFFECTS = {-1, 2, NONE, MIN, MAX};
    private static final int[] NO_WHATS = {-1, 10, NONE, MIN, MAX};

    private ForecastTests() {
    }

    private static void changesNothing(String what, Asked asked) {
        for (History history : new History[] {Bench::busy, EffectTrain::new}) {
            EffectTrain train = history.make();
            Object first = Due.outcome(() -> asked.of(train));
            Due.same(what + " throws", false, first.toString().startsWith("throws"));
            Due.same(what + " again", first, Due.outcome(() -> asked.of(train)));
            Due.same("what there is after " + what, everything(history.make()), everything(train));
        }
    }

    @Sentence(in = "Promise 19",
        says = "---- forecasts; these and all following methods up to the save slots change nothing")
    static void forecastsChangeNothing() {
        changesNothing("ahead", x -> x.ahead(0, 99, 1));
        changesNothing("growth", x -> x.growth(99, 1));
        changesNothing("washGain", x -> x.washGain(0, 20, 99));
        changesNothing("bestTurns", x -> x.bestTurns(3, true));
        changesNothing("bestTurns", x -> x.bestTurns(3, false));
        changesNothing("scaledAfter", x -> x.scaledAfter(1, 99));
        changesNothing("steamFor", x -> x.steamFor(9999, 20));
        changesNothing("runScript", x -> x.runScript(3, 10099_20001_30001L));
        changesNothing("runScript of a wash", x -> x.runScript(2, 40020_10001L));
        changesNothing("simulate", x -> x.simulate(1L, 99));
    }

    // ---- ahead

    @Sentence(in = "Promise 19", says = {"Tells a number of an effect after ticks without other changes.",
        "Returns that number."})
    static void aheadTellsWhatTicksWillBring() {
        for (int m : new int[] {0, 1, 2, 98, 99}) {
            EffectTrain train = train(BUSY);
            EffectTrain later = train(BUSY);
            if (m > 0) {
                later.tick(m);
            }
            for (int what = 0; what <= 9; what++) {
                for (int i = 0; i < 2; i++) {
                    Due.same("ahead " + i + " " + m + " " + what, later.effect(i, what), train.ahead(i, m, what));
                }
            }
        }
        // the end of a wash, and of its turn
        EffectTrain washed = six();
        washed.wash(5, 20);
        Due.same("ticks left in 19 ticks", 1, washed.ahead(5, 19, 7));
        Due.same("ticks left in 20 ticks", 0, washed.ahead(5, 20, 7));
    }

    @Sentence(in = "Promise 19", says = "`m`: number of ticks, 0 to 99")
    static void aheadTakes0To99() {
        Due.call("ahead by 0", 900, () -> train(BUSY).ahead(0, 0, 1));
        Due.call("ahead by 1", 773, () -> train(BUSY).ahead(0, 1, 1));
        EffectTrain later = train(BUSY);
        later.tick(98);
        Due.call("ahead by 98", later.effect(0, 1), () -> train(BUSY).ahead(0, 98, 1));
        later.tick(1);
        Due.call("ahead by 99", later.effect(0, 1), () -> train(BUSY).ahead(0, 99, 1));
    }

    @Sentence(in = "Promise 19", says = "`what`: 0 to 9, as for effect()")
    static void aheadTakesWhatFrom0To9() {
        int[] due = {4, 516, 111, 50, 10, 6, 46, 0, 17, 25};
        for (int what = 0; what <= 9; what++) {
            int w = what;
            Due.call("ahead by 1 for " + w, due[w], () -> train(BUSY).ahead(1, 1, w));
        }
    }

    @Sentence(in = "Promise 19", says = "Throws `IllegalArgumentException` if m or what is out of range")
    static void aheadOfNumbersOutOfRange() {
        for (int m : new int[] {-1, 100, MIN, MAX}) {
            refusedArgument("ahead by " + m, Bench::busy, x -> x.ahead(0, m, 0));
            refusedArgument("ahead by " + m + " for 10", Bench::busy, x -> x.ahead(0, m, 10));
        }
        for (int what : NO_WHATS) {
            refusedArgument("ahead for " + what, Bench::busy, x -> x.ahead(1, 0, what));
            refusedArgument("ahead for " + what, Bench::busy, x -> x.ahead(1, 99, what));
        }
    }

    @Sentence(in = "Promise 19",
        says = {"`i`: effect", "Throws `IndexOutOfBoundsException` if there is no such effect"})
    static void aheadOfNoSuchEffect() {
        for (int i : NO_EFFECTS) {
            refusedIndex("ahead of " + i, Bench::busy, x -> x.ahead(i, 1, 1));
            refusedIndex("ahead of " + i + " by 100", Bench::busy, x -> x.ahead(i, 100, 1));
            refusedIndex("ahead of " + i + " for 10", Bench::busy, x -> x.ahead(i, 1, 10));
        }
        refusedIndex("ahead of 6 of six", Bench::six, x -> x.ahead(6, 0, 0));
    }

    // ---- growth

    @Sentence(in = "Promise 20", says = {"Tells by how much a count grows in ticks without other changes.",
        "Returns that number."})
    static void growthTellsWhatTicksWillAdd() {
        for (int m : new int[] {1, 2, 98, 99}) {
            EffectTrain train = busy();
            EffectTrain later = busy();
            int[] before = new int[10];
            for (int what = 0; what <= 9; what++) {
                before[what] = later.total(what);
            }
            later.tick(m);
            for (int what = 0; what <= 9; what++) {
                int due = later.total(what) - before[what];
                Due.same("growth " + m + " " + what, due, train.growth(m, what));
            }
        }
        EffectTrain train = train(BUSY);
        train.wash(0, 20);
        train.wash(1, 20);
        Due.same("steam used when none works", 0, train.growth(20, 0));
        Due.same("held back when none works", 20, train.growth(20, 9));
    }

    @Sentence(in = "Promise 20", says = "`what`: 0 to 9, as for total()")
    static void growthTakesWhatFrom0To9() {
        int[] due = {80, 71, 14, 21, 45, 100, 20, 40, 10, 0};
        for (int what = 0; what <= 9; what++) {
            int w = what;
            Due.call("growth 1 " + w, due[w], () -> train(BUSY).growth(1, w));
        }
    }

    @Sentence(in = "Promise 20", says = "`m`: number of ticks, 1 to 99")
    static void growthTakes1To99() {
        for (int m : new int[] {1, 2, 98, 99}) {
            Due.call("growth in " + m, 80 * m, () -> train(BUSY).growth(m, 0));
        }
    }

    @Sentence(in = "Promise 20", says = "Throws `IllegalArgumentException` if m or what is out of range")
    static void growthOfNumbersOutOfRange() {
        for (int m : new int[] {0, 100, -1, MIN, MAX}) {
            refusedArgument("growth in " + m, Bench::busy, x -> x.growth(m, 0));
        }
        for (int what : NO_WHATS) {
            refusedArgument("growth of " + what, Bench::busy, x -> x.growth(1, what));
            refusedArgument("growth of " + what + " in 100", Bench::busy, x -> x.growth(100, what));
        }
    }

    // ---- washGain

    @Sentence(in = "Promise 21", says = {"Tells what a wash would gain.",
        "Returns the vapor of the next m ticks if effect i begins to be washed now for so many ticks,"
        + " minus that without this wash."})
    static void washGainIsLossNothingOrGain() {
        // the power 900 / 35 = 25; after 5 ticks of washing 90
        String scaled = effect(9, 4000, 0, 0, 0, 25);
        EffectTrain train = train(90, 0, 0, 0, 5, scaled, DRY);
        Due.call("a wash alone", -25, () -> train.washGain(0, 5, 1));
        Due.call("a wash to its end", -125, () -> train.washGain(0, 5, 5));
        Due.call("a tick more", -125 + 65, () -> train.washGain(0, 5, 6));
        Due.call("two ticks more", -125 + 130, () -> train.washGain(0, 5, 7));
        Due.call("the wash of a dry one", 0, () -> train.washGain(1, 20, 99));
        // a turn would begin now; a wash of the other one keeps it from doing so
        EffectTrain turn = train(90, 0, 0, 99, 5, scaled, effect(9, 4000, 0, 0, 0, 24));
        // without: 26 of the second one; with: 25 of the first one
        Due.call("a wash instead of a turn", 25 - 26, () -> turn.washGain(1, 1, 1));
        Due.call("a wash that would begin anyway", 0, () -> turn.washGain(0, 5, 99));
    }

    @Sentence(in = "Promise 21", says = "`ticks`: 1 to 20")
    static void washGainTakes1To20TicksOfWashing() {
        EffectTrain train = train(50, 0, 0, 0, 5, CLEAN, DRY);
        for (int ticks : new int[] {1, 2, 19, 20}) {
            Due.call(ticks + " ticks of washing in 20", -50 * ticks, () -> train.washGain(0, ticks, 20));
        }
    }

    @Sentence(in = "Promise 21", says = "`m`: number of ticks, 1 to 99")
    static void washGainTakes1To99Ticks() {
        EffectTrain train = train(50, 0, 0, 0, 5, CLEAN, DRY);
        Due.call("a wash in a tick", -50, () -> train.washGain(0, 20, 1));
        Due.call("a wash in 2 ticks", -100, () -> train.washGain(0, 20, 2));
        // without a wash the 4000 of water have boiled off after 80 ticks
        Due.call("a wash in 98 ticks", -100, () -> train.washGain(0, 20, 98));
        Due.call("a wash in 99 ticks", -50, () -> train.washGain(0, 20, 99));
        Due.call("a shorter wash in 99 ticks", 0, () -> train.washGain(0, 19, 99));
    }

    @Sentence(in = "Promise 21", says = "Throws `IllegalArgumentException` if ticks or m is out of range")
    static void washGainOfNumbersOutOfRange() {
        for (int ticks : new int[] {0, 21, -1, MIN, MAX}) {
            refusedArgument("washGain for " + ticks, Bench::busy, x -> x.washGain(0, ticks, 1));
            refusedArgument("washGain of a washed one for " + ticks, Bench::busy, x -> x.washGain(1, ticks, 1));
        }
        for (int m : new int[] {0, 100, -1, MIN, MAX}) {
            refusedArgument("washGain in " + m, Bench::busy, x -> x.washGain(0, 1, m));
            refusedArgument("washGain of a washed one in " + m, Bench::busy, x -> x.washGain(1, 1, m));
        }
    }

    @Sentence(in = "Promise 21",
        says = {"`i`: effect", "Throws `IndexOutOfBoundsException` if there is no such effect"})
    static void washGainOfNoSuchEffect() {
        for (int i : NO_EFFECTS) {
            refusedIndex("washGain of " + i, Bench::busy, x -> x.washGain(i, 1, 1));
            refusedIndex("washGain of " + i + " for 21", Bench::busy, x -> x.washGain(i, 21, 1));
            refusedIndex("washGain of " + i + " in 100", Bench::busy, x -> x.washGain(i, 1, 100));
        }
        refusedIndex("washGain of 6 of six", Bench::six, x -> x.washGain(6, 1, 1));
    }

    @Sentence(in = "Promise 21", says = "Throws `IllegalStateException` if it is washed")
    static void washGainOfAWashedOne() {
        refusedState("washGain of a washed one", Bench::busy, x -> x.washGain(1, 1, 1));
        EffectTrain train = six();
        train.wash(3, 1);
        Due.state("washGain in the last tick of a wash", () -> train.washGain(3, 20, 99));
        train.tick(1);
        Due.call("washGain after it", 0, () -> train.washGain(3, 1, 1) - train.washGain(3, 20, 1));
    }

    // ---- bestTurns

    @Sentence(in = "Promise 22", says = {"Finds the best turns: k turns of 5 ticks each are made;",
        "the vapor of all turns together is to be as great as possible.", "false for the greatest vapor",
        "Returns that number."})
    static void bestTurnsMakeTheGreatestVaporInFiveTicksEach() {
        EffectTrain clean = train(50, 0, 0, 0, 5, CLEAN, CLEAN);
        for (int k = 1; k <= 3; k++) {
            int turns = k;
            Due.call(turns + " turns without a wash", 500 * turns, () -> clean.bestTurns(turns, false));
            Due.call(turns + " turns, none is washed", -1, () -> clean.bestTurns(turns, true));
        }
        // the power 25, and 90 after a wash
        String scaled = effect(9, 4000, 0, 0, 0, 25);
        EffectTrain train = train(90, 0, 0, 0, 5, scaled, scaled);
        Due.call("a turn, no wash", 250, () -> train.bestTurns(1, false));
        Due.call("two turns, one wash", 125 + 575, () -> train.bestTurns(2, false));
        Due.call("three turns, two washes", 125 + 450 + 900, () -> train.bestTurns(3, false));
        // the length is that of the turns of the interval, not of these
        for (int length : new int[] {1, 20}) {
            train.set(4, length);
            Due.call("two turns, the length " + length, 125 + 575, () -> train.bestTurns(2, false));
        }
    }

    @Sentence(in = "Promise 22", says = "`k`: number of turns, 1 to 3")
    static void bestTurnsTake1To3() {
        EffectTrain train = train(10, 0, 0, 0, 5, CLEAN, DRY);
        Due.call("1 turn", 50, () -> train.bestTurns(1, false));
        Due.call("2 turns", 100, () -> train.bestTurns(2, false));
        Due.call("3 turns", 150, () -> train.bestTurns(3, false));
        EffectTrain six = train(10, 0, 0, 0, 5, CLEAN, CLEAN, CLEAN, CLEAN, CLEAN, CLEAN);
        Due.call("3 turns of six effects", 900, () -> six.bestTurns(3, false));
        Due.call("3 turns of six effects, none is washed", -1, () -> six.bestTurns(3, true));
    }

    @Sentence(in = "Promise 22", says = "Throws `IllegalArgumentException` if k is out of range")
    static void bestTurnsOfAnotherNumber() {
        for (int k : new int[] {0, 4, -1, NONE, MIN, MAX}) {
            refusedArgument("bestTurns " + k, Bench::busy, x -> x.bestTurns(k, true));
            refusedArgument("bestTurns " + k, Bench::busy, x -> x.bestTurns(k, false));
        }
    }

    @Sentence(in = "Promise 22",
        says = "ahead of each turn, one effect that works then can begin to be washed for 5 ticks, or none;")
    static void bestTurnsWashAnEffectThatWorksThen() {
        // the first one has the power 500 / 109 = 4 and keeps the heat from the other one
        String clogged = effect(5, 4000, 0, 0, 0, 99);
        EffectTrain train = train(50, 0, 0, 0, 5, clogged, effect(5, 4000, 0, 0, 0, 0));
        Due.call("it is washed at once", 0, () -> train.bestTurns(1, true));
        Due.call("the other one boils", 250, () -> train.bestTurns(1, false));
        Due.call("it is washed in each turn", 750, () -> train.bestTurns(3, false));
        int[] ticksLeft = {1, 2, 4, 5, 6};
        // when it works again: 500 / 104 = 4, 500 / 99 = 5, 500 / 89 = 5, and as much for the other one
        int[] due = {50 + 4 * 8, 100 + 3 * 10, 200 + 10, 250, 250};
        for (int k = 0; k < ticksLeft.length; k++) {
            int left = ticksLeft[k];
            EffectTrain washed = train(50, 0, 0, 0, 5, clogged, effect(5, 4000, 0, 0, 0, 0));
            washed.wash(0, left);
            Due.call("it can't be washed longer than " + left, due[k], () -> washed.bestTurns(1, false));
            Due.call("none is washed in the first turn", -1, () -> washed.bestTurns(1, true));
        }
        // with 5 ticks left it works when the second turn begins, with 6 it does not
        EffectTrain five = train(50, 0, 0, 0, 5, clogged, effect(5, 4000, 0, 0, 0, 0));
        five.wash(0, 5);
        Due.call("5 ticks left: washed again in the second turn", 500, () -> five.bestTurns(2, false));
        EffectTrain six = train(50, 0, 0, 0, 5, clogged, effect(5, 4000, 0, 0, 0, 0));
        six.wash(0, 6);
        // the scale 69 then: 500 / 79 = 6, and 6 for the other one
        Due.call("6 ticks left: not washed again in the second turn", 300 + 4 * 12, () -> six.bestTurns(2, false));
        // none can be washed
        EffectTrain none = train(50, 0, 0, 0, 5, CLEAN, CLEAN);
        none.wash(0, 20);
        none.wash(1, 20);
        Due.call("all are washed", 0, () -> none.bestTurns(3, false));
        Due.call("all are washed, none begins", -1, () -> none.bestTurns(3, true));
    }

    @Sentence(in = "Promise 22", says = "`first`: true for the effect that is washed in the first turn (-1 for none;")
    static void bestTurnsFirstIsFromNoneToTheLastEffect() {
        String[] effects = {CLEAN, CLEAN, CLEAN, CLEAN, CLEAN, CLEAN};
        for (int clogged = -1; clogged < 6; clogged++) {
            String[] train = effects.clone();
            if (clogged >= 0) {
                train[clogged] = effect(1, 4000, 0, 0, 0, 99);
            }
            // the power is 0: nothing passes it, but in a wash it is passed over
            int due = clogged == 5 ? -1 : clogged;
            Due.call("clogged is " + clogged, due, () -> train(90, 0, 0, 0, 5, train).bestTurns(1, true));
        }
        // the last one is worth a wash if it boils afterwards: 40 a tick, and 25 or else 40 of the last one
        EffectTrain last = train(40, 0, 0, 0, 5, CLEAN, effect(9, 4000, 0, 0, 0, 25));
        Due.call("the last one", 1, () -> last.bestTurns(3, true));
        Due.call("the last one's vapor", 200 + 400 + 400, () -> last.bestTurns(3, false));
    }

    @Sentence(in = "Promise 22",
        says = "among several best ways -1 if it belongs to one of them, otherwise the smallest effect),")
    static void bestTurnsAmongSeveralBestWays() {
        EffectTrain all = train(0, 0, 0, 0, 5, CLEAN, CLEAN, CLEAN);
        for (int k = 1; k <= 3; k++) {
            int turns = k;
            Due.call("without steam all ways are best", -1, () -> all.bestTurns(turns, true));
            Due.call("without steam there is no vapor", 0, () -> all.bestTurns(turns, false));
        }
        // 0 and 1 must be washed, one after the other
        String scaled = effect(9, 4000, 0, 0, 0, 25);
        EffectTrain two = train(90, 0, 0, 0, 5, scaled, scaled);
        Due.call("two that are alike: the smallest", 0, () -> two.bestTurns(3, true));
        // of two in a row each lets only 4 through
        String clogged = effect(5, 4000, 0, 0, 0, 99);
        EffectTrain later = train(50, 0, 0, 0, 5, effect(5, 0, 0, 0, 0, 0), clogged, clogged);
        Due.call("the dry one takes all heat: it is washed", 0, () -> later.bestTurns(1, true));
        Due.call("the heat passes it", 5 * (4 + 4), () -> later.bestTurns(1, false));
    }

    @Sentence(in = "Promise 22", says = "(Besides, everything goes on as it is told.)")
    static void bestTurnsGoOnWithTheTurnsOfTheInterval() {
        String scaled = effect(9, 4000, 0, 0, 0, 25);
        EffectTrain train = train(90, 0, 0, 99, 5, scaled, scaled);
        // the interval washes the first one now, if no other is washed
        Due.call("none is washed by choice", -1, () -> train.bestTurns(1, true));
        Due.call("the second one alone boils", 125, () -> train.bestTurns(1, false));
        Due.call("two turns", 125 + 575, () -> train.bestTurns(2, false));
        EffectTrain later = train(90, 0, 0, 99, 5, scaled, scaled);
        later.tick(1);
        later.endWash(0);
        // the first one has the scale 20 now, the power 30; no turn for long
        Due.call("no turn at the clock 1", 5 * (30 + 25), () -> later.bestTurns(1, false));
    }

    // ---- scaledAfter

    @Sentence(in = "Promise 23", says = {"Tells when an effect becomes too scaled.",
        "Returns the smallest number of ticks, 0 to 200, after which (without other changes)"
        + " its scale is at least so much;"})
    static void scaledAfter0To200Ticks() {
        // a growth of 5 a tick: 10 of vapor in liquor of the thickness 5
        EffectTrain slow = train(10, 10, 0, 0, 5, effect(5, 950, 50, 0, 0, 0), DRY);
        Due.call("after 200 ticks", 200, () -> slow.scaledAfter(0, 1));
        slow.tick(1);
        Due.call("after 199 ticks", 199, () -> slow.scaledAfter(0, 1));
        slow.undo();
        slow.tick(99);
        slow.tick(99);
        Due.call("after 2 ticks", 2, () -> slow.scaledAfter(0, 1));
        slow.tick(1);
        Due.call("after a tick", 1, () -> slow.scaledAfter(0, 1));
        slow.tick(1);
        Due.call("after no tick", 0, () -> slow.scaledAfter(0, 1));
        Due.call("the next one", 200, () -> slow.scaledAfter(0, 2));
        EffectTrain scaled = train(10, 10, 0, 1, 20, effect(5, 0, 0, 0, 0, 40), DRY);
        Due.call("at first, before it is washed", 0, () -> scaled.scaledAfter(0, 40));
        Due.call("more than so much at first", 0, () -> scaled.scaledAfter(0, 39));
        Due.call("far more than so much at first", 0, () -> scaled.scaledAfter(0, 1));
    }

    @Sentence(in = "Promise 23", says = "NONE if there is none.")
    static void scaledAfterMoreThan200Ticks() {
        EffectTrain slow = train(10, 10, 0, 0, 5, effect(5, 950, 50, 0, 0, 0), DRY);
        Due.call("scale 1 after 200 ticks", 200, () -> slow.scaledAfter(0, 1));
        Due.call("scale 2 after 400 ticks", NONE, () -> slow.scaledAfter(0, 2));
        Due.call("of one that never scales", NONE, () -> slow.scaledAfter(1, 1));
        slow.wash(0, 1);
        Due.call("scale 1 after 201 ticks", NONE, () -> slow.scaledAfter(0, 1));
        EffectTrain washed = train(10, 10, 0, 1, 20, effect(5, 0, 0, 0, 0, 40), DRY);
        Due.call("of one that is washed", NONE, () -> washed.scaledAfter(0, 41));
    }

    @Sentence(in = "Promise 23", says = "`scale`: 1 to 99")
    static void scaledAfterTakes1To99() {
        EffectTrain most = train(0, 0, 0, 0, 5, effect(5, 0, 0, 0, 0, 99), effect(5, 0, 0, 0, 0, 1));
        Due.call("scale 99 of 99", 0, () -> most.scaledAfter(0, 99));
        Due.call("scale 99 of 1", NONE, () -> most.scaledAfter(1, 99));
        Due.call("scale 1 of 1", 0, () -> most.scaledAfter(1, 1));
        Due.call("scale 2 of 1", NONE, () -> most.scaledAfter(1, 2));
    }

    @Sentence(in = "Promise 23", says = "Throws `IllegalArgumentException` if scale is out of range")
    static void scaledAfterOfAScaleOutOfRange() {
        for (int scale : new int[] {0, 100, -1, MIN, MAX}) {
            refusedArgument("scaledAfter " + scale, Bench::busy, x -> x.scaledAfter(0, scale));
        }
    }

    @Sentence(in = "Promise 23",
        says = {"`i`: effect", "Throws `IndexOutOfBoundsException` if there is no such effect"})
    static void scaledAfterOfNoSuchEffect() {
        for (int i : NO_EFFECTS) {
            refusedIndex("scaledAfter of " + i, Bench::busy, x -> x.scaledAfter(i, 1));
            refusedIndex("scaledAfter of " + i + " to 100", Bench::busy, x -> x.scaledAfter(i, 100));
        }
        refusedIndex("scaledAfter of 6 of six", Bench::six, x -> x.scaledAfter(6, 1));
    }

    // ---- steamFor

    @Sentence(in = "Promise 24", says = {"Finds the steam that is enough, from now on and without other changes.",
        "Returns the smallest steam, 0 to 999, with which the vapor of the next m ticks is at least so much;"})
    static void steamForIsTheSmallestThatIsEnough() {
        EffectTrain train = train(500, 0, 0, 0, 5, CLEAN, CLEAN);
        int[][] vaporAndSteam = {{0, 0}, {1, 1}, {2, 1}, {3, 2}, {99, 50}, {100, 50}, {101, 51}, {179, 90}, {180, 90}};
        for (int[] c : vaporAndSteam) {
            Due.call("steam for " + c[0], c[1], () -> train.steamFor(c[0], 1));
        }
        Due.call("steam for 2 ticks", 45, () -> train.steamFor(180, 2));
        EffectTrain washed = train(500, 0, 0, 0, 5, CLEAN, CLEAN);
        washed.wash(0, 1);
        Due.call("steam while the first one is washed", 90, () -> washed.steamFor(90, 1));
        Due.call("no steam", 0, () -> washed.steamFor(0, 1));
        // 22 gives 20 + 15 and 18 + 13, 23 gives 21 + 15 and 17 + 12: more steam can give less vapor
        EffectTrain less = train(23, 1, 0, 0, 5, effect(5, 40, 13, 4, 0, 0), effect(2, 50, 58, 8, 0, 0));
        Due.call("the smallest one, also if a greater one is not enough", 22, () -> less.steamFor(66, 2));
    }

    @Sentence(in = "Promise 24", says = "NONE if there is none.")
    static void steamForMoreThanThereCanBe() {
        EffectTrain train = train(500, 0, 0, 0, 5, CLEAN, CLEAN);
        Due.call("steam for 181", NONE, () -> train.steamFor(181, 1));
        Due.call("steam for 3600 in 20 ticks", 90, () -> train.steamFor(3600, 20));
        Due.call("steam for 3601 in 20 ticks", NONE, () -> train.steamFor(3601, 20));
        EffectTrain washed = train(500, 0, 0, 0, 5, CLEAN, CLEAN);
        washed.wash(0, 20);
        washed.wash(1, 20);
        Due.call("steam for 0 when none works", 0, () -> washed.steamFor(0, 20));
        Due.call("steam for 1 when none works", NONE, () -> washed.steamFor(1, 20));
        EffectTrain dry = train(500, 0, 0, 0, 5, DRY, DRY);
        Due.call("steam for 1 without water", NONE, () -> dry.steamFor(1, 20));
    }

    @Sentence(in = "Promise 24", says = "`vapor`: 0 to 9999")
    static void steamForTakesVaporFrom0To9999() {
        EffectTrain train = train(500, 0, 0, 0, 5, CLEAN, CLEAN, CLEAN, CLEAN, CLEAN, CLEAN);
        Due.call("steam for 0", 0, () -> train.steamFor(0, 20));
        Due.call("steam for 1", 1, () -> train.steamFor(1, 20));
        // 84 * 6 * 20 is 10080, 83 * 6 * 20 is 9960
        Due.call("steam for 9960", 83, () -> train.steamFor(9960, 20));
        Due.call("steam for 9961", 84, () -> train.steamFor(9961, 20));
        Due.call("steam for 9999", 84, () -> train.steamFor(9999, 20));
    }

    @Sentence(in = "Promise 24", says = "`m`: number of ticks, 1 to 20")
    static void steamForTakes1To20Ticks() {
        EffectTrain train = train(500, 0, 0, 0, 5, CLEAN, CLEAN, CLEAN, CLEAN, CLEAN, CLEAN);
        int[][] ticksAndSteam = {{1, 38}, {2, 19}, {19, 2}, {20, 2}};
        for (int[] c : ticksAndSteam) {
            Due.call("steam for 228 in " + c[0], c[1], () -> train.steamFor(228, c[0]));
        }
        Due.call("steam for 120 in 19", 2, () -> train.steamFor(120, 19));
        Due.call("steam for 120 in 20", 1, () -> train.steamFor(120, 20));
    }

    @Sentence(in = "Promise 24", says = "Throws `IllegalArgumentException` if vapor or m is out of range")
    static void steamForNumbersOutOfRange() {
        for (int vapor : new int[] {-1, 10000, NONE, MIN, MAX}) {
            refusedArgument("steamFor " + vapor, Bench::busy, x -> x.steamFor(vapor, 1));
        }
        for (int m : new int[] {0, 21, -1, MIN, MAX}) {
            refusedArgument("steamFor in " + m, Bench::busy, x -> x.steamFor(0, m));
            refusedArgument("steamFor 10000 in " + m, Bench::busy, x -> x.steamFor(10000, m));
        }
    }
}
