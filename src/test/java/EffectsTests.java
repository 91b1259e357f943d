/** The section EFFECTS of the document, and what stands ahead of it: ranges, roundings, a new object. */
final class EffectsTests extends Bench {
    private static final String CLEAN = effect(9, 4000, 0, 0, 0, 0);
    private static final String DRY = effect(9, 0, 0, 0, 0, 0);

    private EffectsTests() {
    }

    // ---- what it is

    @Sentence(in = "What it is", says = "An object is used for at most 512 calls after it has been made;")
    static void theCall512IsAnsweredStill() {
        EffectTrain train = new EffectTrain();
        train.set(0, 999);
        for (int call = 2; call <= 511; call++) {
            train.tick(99);
        }
        Due.same("the steam used, as the call 512", 999 * 99 * 510, train.total(0));
        EffectTrain other = new EffectTrain();
        for (int call = 1; call <= 511; call++) {
            other.set(0, call);
        }
        Due.call("undo as the call 512", 13, other::undo);
        EffectTrain late = new EffectTrain();
        for (int call = 1; call <= 511; call++) {
            late.tick(99);
        }
        Due.same("the clock as the call 512", 511 * 99, late.about(6));
    }

    @Sentence(in = "What it is", says = "It keeps exact accounts of water, solids and heat")
    static void theAccountsAreExact() {
        EffectTrain train = six();
        train.set(3, 7);
        for (int k = 0; k < 20; k++) {
            train.tick(1 + k);
            Due.same("water", 2100 + train.total(5), train.about(8) + train.total(1) + train.total(7));
            Due.same("solids", 210 + train.total(6), train.about(9) + train.total(8));
            Due.same("heat", train.total(0), train.total(2) + train.total(3) + train.total(4));
        }
    }

    @Sentence(in = "What it is", says = "Changes can be undone.")
    static void changesCanBeUndone() {
        EffectTrain train = six();
        String before = look(train);
        train.tick(99);
        train.undo();
        Due.same("what there is after a change and its undo", before, look(train));
    }

    // ---- n

    private static String[] clean(int n) {
        String[] effects = new String[n];
        java.util.Arrays.fill(effects, CLEAN);
        return effects;
    }

    private static EffectTrain cleanTrain(int n) {
        return train(50, 0, 0, 0, 5, clean(n));
    }

    @Sentence(in = "EFFECTS", says = "There are n effects, 2 to 6, numbered from 0.")
    static void effectsAre2To6() {
        for (int n = 2; n <= 6; n++) {
            Due.same("n", n, cleanTrain(n).about(0));
        }
        String one = text(50, 0, 0, 0, 5, clean(1));
        String seven = "E7" + text(50, 0, 0, 0, 5, clean(6)).substring(2);
        Due.same("errorPosition with one effect", 1, typed(one).errorPosition());
        Due.same("errorPosition with seven effects", 1, typed(seven).errorPosition());
        refusedState("load of one effect", () -> typed(one), EffectTrain::load);
        refusedState("load of seven effects", () -> typed(seven), EffectTrain::load);
    }

    /** Asks each method that is given an effect. */
    private static Object[] askOf(EffectTrain train, int i) {
        return new Object[] {
            Due.outcome(() -> train.effect(i, 1)), Due.outcome(() -> train.neighbor(i, true)),
            Due.outcome(() -> train.neighbor(i, false)), Due.outcome(() -> train.share(i)),
            Due.outcome(() -> train.setValve(i, 7)), Due.outcome(() -> train.setBleed(i, 7)),
            Due.outcome(() -> train.ahead(i, 1, 0)), Due.outcome(() -> train.washGain(i, 1, 1)),
            Due.outcome(() -> train.scaledAfter(i, 1)), Due.outcome(() -> train.wash(i, 2)),
            Due.outcome(() -> train.endWash(i))};
    }

    @Sentence(in = "EFFECTS", says = "numbered from 0.")
    static void effectsAreNumberedFrom0() {
        for (int n = 2; n <= 6; n++) {
            for (int i : new int[] {0, n - 1}) {
                for (Object answer : askOf(cleanTrain(n), i)) {
                    boolean refused = answer.toString().startsWith("throws");
                    Due.same("a call of effect " + i + " of " + n + " is refused", false, refused);
                }
            }
            for (int i : new int[] {-1, n, NONE, MIN, MAX}) {
                for (Object answer : askOf(cleanTrain(n), i)) {
                    Due.same("a call of effect " + i + " of " + n, Due.INDEX, answer);
                }
            }
        }
    }

    // ---- the numbers of an effect

    @Sentence(in = "EFFECTS", says = "An effect has an area from 1 to 9,")
    static void areaIs1To9() {
        EffectTrain train = train(50, 0, 0, 0, 5, effect(1, 100, 0, 0, 0, 0), effect(9, 100, 0, 0, 0, 0));
        eachIs("areas", train, 0, 1, 9);
        eachIs("their powers", train, 9, 10, 90);
        String none = text(50, 0, 0, 0, 5, effect(0, 100, 0, 0, 0, 0), DRY);
        Due.same("errorPosition of the area 0", 14, typed(none).errorPosition());
        refusedState("load of the area 0", () -> typed(none), EffectTrain::load);
    }

    @Sentence(in = "EFFECTS", says = "water and solids (whole units, together at most 5000),")
    static void waterAndSolidsTogetherAtMost5000() {
        EffectTrain full = train(0, 1, 0, 0, 5, effect(5, 4000, 1000, 0, 0, 0), effect(5, 4000, 1000, 0, 0, 0));
        Due.same("water and solids of two full effects", 10000, full.about(8) + full.about(9));
        full.tick(99);
        eachIs("full", full, 1, 4000, 4000);
        eachIs("full", full, 2, 1000, 1000);
        Due.same("fed into the full effect", 0, full.total(5));
        EffectTrain last = train(0, 1, 0, 0, 5, effect(5, 3999, 1000, 0, 0, 0), effect(5, 100, 0, 999, 0, 0));
        last.tick(1);
        eachIs("the last unit has come", last, 1, 4000, 0);
        last.tick(1);
        eachIs("no more comes", last, 1, 4000, 0);
        EffectTrain any = train(300, 999, 99, 4, 3, effect(9, 4000, 1000, 999, 90, 0), effect(1, 4000, 1000, 999, 0, 9),
            effect(1, 4000, 1000, 3, 0, 99));
        for (int k = 0; k < 60; k++) {
            any.tick(1);
            for (int i = 0; i < 3; i++) {
                int amount = any.effect(i, 1) + any.effect(i, 2);
                Due.same("an amount of " + amount + " is at most 5000", true, amount <= 5000);
            }
        }
    }

    @Sentence(in = "EFFECTS", says = "a valve from 0 to 999,")
    static void valveIs0To999() {
        EffectTrain train = train(0, 0, 0, 0, 5, effect(5, 3000, 0, 0, 0, 0), effect(5, 3000, 0, 999, 0, 0));
        eachIs("valves", train, 3, 0, 999);
        train.tick(1);
        eachIs("the water behind the valves", train, 1, 3000, 3000 - 999);
        train.setValve(0, 999);
        train.setValve(1, 0);
        eachIs("valves that have been set", train, 3, 999, 0);
    }

    @Sentence(in = "EFFECTS", says = "a bleed from 0 to 90 percent,")
    static void bleedIs0To90Percent() {
        EffectTrain train = train(90, 0, 0, 0, 5, effect(9, 4000, 0, 0, 90, 0), effect(9, 4000, 0, 0, 0, 0));
        eachIs("bleeds", train, 4, 90, 0);
        train.tick(1);
        countsAre("90 of 100 are bled", train, 90, 99, 81, 9, 0);
        train.setBleed(0, 0);
        train.setBleed(1, 90);
        eachIs("bleeds that have been set", train, 4, 0, 90);
    }

    @Sentence(in = "EFFECTS", says = "scale from 0 to 99,")
    static void scaleIs0To99() {
        // the first one: 8 - 8 * 50 / 200 = 6 a tick, and 6 * 50 / 10 = 30 of growth
        EffectTrain train = train(90, 6, 0, 0, 5, effect(9, 1000, 1000, 0, 0, 99), effect(9, 4000, 0, 0, 0, 0));
        eachIs("scales", train, 5, 99, 0);
        train.wash(1, 20);
        for (int k = 0; k < 9; k++) {
            train.tick(99);
            eachIs("scales stay in their range", train, 5, 99, 0);
        }
    }

    @Sentence(in = "EFFECTS", says = "a growth from 0 to 999,")
    static void growthIs0To999() {
        // 85 - 85 * 53 / 200 = 63 a tick, 63 * 53 / 10 = 333 of growth
        EffectTrain most = train(85, 63, 0, 0, 5, effect(9, 886, 1000, 0, 0, 0), DRY);
        most.tick(3);
        effectIs("growth 999", most, 0, 9, 886, 1000, 0, 0, 0, 999);
        most.tick(1);
        effectIs("growth 1332", most, 0, 9, 886, 1000, 0, 0, 1, 332);
        // 53 - 53 * 50 / 200 = 40 a tick, 40 * 50 / 10 = 200 of growth
        EffectTrain round = train(53, 40, 0, 0, 5, effect(9, 1000, 1000, 0, 0, 0), DRY);
        Due.same("growth at first", 0, round.effect(0, 6));
        round.tick(4);
        effectIs("growth 800", round, 0, 9, 1000, 1000, 0, 0, 0, 800);
        round.tick(1);
        effectIs("growth 1000", round, 0, 9, 1000, 1000, 0, 0, 1, 0);
    }

    @Sentence(in = "EFFECTS", says = "and is washed for a number of ticks that are left, or works.")
    static void washedOrWorks() {
        EffectTrain train = cleanTrain(2);
        eachIs("ticks left of those that work", train, 7, 0, 0);
        train.wash(0, 1);
        train.wash(1, 20);
        eachIs("ticks left", train, 7, 1, 20);
        Due.same("both are washed", 2, train.about(7));
        train.tick(1);
        eachIs("ticks left a tick later", train, 7, 0, 19);
        Due.same("one is washed", 1, train.about(7));
    }

    // ---- what is computed from them

    @Sentence(in = "EFFECTS",
        says = "The amount of an effect is its water plus its solids; its room is 5000 minus its amount;")
    static void roomIs5000MinusTheAmount() {
        // the room of the second one is 5000 - 3990 - 1000 = 10
        int[][] valveAndFlow = {{9, 9}, {10, 10}, {11, 10}, {999, 10}};
        for (int[] flow : valveAndFlow) {
            EffectTrain train = train(0, 0, 0, 0, 5, effect(5, 100, 0, flow[0], 0, 0), effect(5, 3990, 1000, 0, 0, 0));
            train.tick(1);
            eachIs("a room of 10 and the valve " + flow[0], train, 1, 100 - flow[1], 3990 + flow[1]);
        }
        EffectTrain full = train(0, 0, 0, 0, 5, effect(5, 100, 0, 999, 0, 0), effect(5, 4000, 1000, 0, 0, 0));
        full.tick(1);
        eachIs("no room", full, 1, 100, 4000);
        EffectTrain empty = train(0, 999, 99, 0, 5, DRY, effect(5, 0, 0, 0, 0, 0));
        empty.tick(1);
        eachIs("all the room there is", empty, 1, 999, 0);
    }

    @Sentence(in = "EFFECTS",
        says = "its thickness is 100 * solids / amount, rounded down, or 0 without any amount;")
    static void thicknessIsRoundedDown() {
        int[][] waterSolidsThickness = {{0, 0, 0}, {1, 0, 0}, {0, 1, 100}, {0, 1000, 100}, {4000, 0, 0},
            {4000, 1000, 20}, {99, 1, 1}, {100, 1, 0}, {2, 1, 33}, {1, 2, 66}, {1, 999, 99}, {10, 989, 98},
            {50, 50, 50}, {51, 50, 49}, {4000, 40, 0}, {3960, 40, 1}};
        for (int[] liquor : waterSolidsThickness) {
            EffectTrain train = train(0, 0, 0, 0, 5, effect(5, liquor[0], liquor[1], 0, 0, 0), DRY);
            Due.same("thickness of " + liquor[0] + " and " + liquor[1], liquor[2], train.effect(0, 8));
        }
    }

    @Sentence(in = "EFFECTS", says = "its power is 100 * area / (10 + scale), rounded down.")
    static void powerIsRoundedDown() {
        int[][] areaScalePower = {{1, 0, 10}, {9, 0, 90}, {5, 0, 50}, {9, 99, 8}, {1, 99, 0}, {1, 90, 1}, {1, 91, 0},
            {2, 99, 1}, {9, 1, 81}, {5, 1, 45}, {7, 20, 23}, {9, 90, 9}, {9, 91, 8}};
        for (int[] wall : areaScalePower) {
            EffectTrain train = train(0, 0, 0, 0, 5, effect(wall[0], 0, 0, 0, 0, wall[1]), DRY);
            Due.same("power of the area " + wall[0] + " with the scale " + wall[1], wall[2], train.effect(0, 9));
        }
    }

    // ---- the settings

    private static void settingIs(String what, int setting, int least, int greatest) {
        EffectTrain train = cleanTrain(2);
        train.set(setting, least);
        Due.same(what + " at the least", least, train.about(1 + setting));
        train.set(setting, greatest);
        Due.same(what + " at the greatest", greatest, train.about(1 + setting));
        for (int v : new int[] {least - 1, greatest + 1}) {
            refusedArgument("set of " + what + " to " + v, () -> cleanTrain(2), x -> x.set(setting, v));
        }
    }

    @Sentence(in = "EFFECTS", says = "There are the steam, 0 to 999,")
    static void steamIs0To999() {
        settingIs("the steam", 0, 0, 999);
    }

    @Sentence(in = "EFFECTS", says = "the feed of water, 0 to 999,")
    static void feedOfWaterIs0To999() {
        settingIs("the feed of water", 1, 0, 999);
    }

    @Sentence(in = "EFFECTS", says = "the feed of solids, 0 to 99,")
    static void feedOfSolidsIs0To99() {
        settingIs("the feed of solids", 2, 0, 99);
    }

    @Sentence(in = "EFFECTS", says = "an interval of washing, 0 to 99 (0: no turns),")
    static void intervalIs0To99And0IsNoTurns() {
        settingIs("the interval", 3, 0, 99);
        EffectTrain train = train(0, 0, 0, 0, 1, effect(5, 0, 0, 0, 0, 99), effect(5, 0, 0, 0, 0, 98));
        train.tick(99);
        eachIs("no turns", train, 5, 99, 98);
        train.set(3, 1);
        train.tick(1);
        eachIs("turns", train, 5, 94, 98);
        train.set(3, 0);
        train.tick(1);
        eachIs("no turns any more", train, 5, 94, 98);
    }

    @Sentence(in = "EFFECTS", says = "and a length of washing, 1 to 20.")
    static void lengthIs1To20() {
        settingIs("the length", 4, 1, 20);
        for (int length : new int[] {1, 20}) {
            EffectTrain train = train(0, 0, 0, 99, length, effect(5, 0, 0, 0, 0, 99), effect(5, 0, 0, 0, 0, 98));
            train.tick(1);
            eachIs("the length " + length, train, 7, length - 1, 0);
        }
    }

    // ---- a new object

    private static void isNew(EffectTrain train) {
        aboutIs("new", train, 2, 100, 90, 10, 0, 5, 0, 0, 0, 0);
        countsAre("new", train, 0, 0, 0, 0, 0, 0, 0, 0, 0, 0);
        effectIs("new", train, 0, 5, 0, 0, 50, 0, 0, 0, 0, 0, 50);
        effectIs("new", train, 1, 5, 0, 0, 50, 0, 0, 0, 0, 0, 50);
    }

    @Sentence(in = "EFFECTS", says = {"A new object has 2 effects with the area 5, the valve 50 and nothing else,",
        "the steam 100, the feed of water 90, the feed of solids 10, the interval 0 and the length 5."})
    static void aNewObjectHasTwoEffectsAndNothingElse() {
        isNew(new EffectTrain());
    }

    @Sentence(in = "Promise 1", says = "Creates the train that is described above.")
    static void aNewObjectIsEmptyInAllElse() {
        EffectTrain other = new EffectTrain();
        other.append('E');
        other.save(0);
        other.tick(5);
        EffectTrain train = new EffectTrain();
        isNew(train);
        Due.same("its text", 0, train.clearText());
        Due.same("its error position", 0, train.errorPosition());
        Due.state("its load", train::load);
        Due.state("its undo", train::undo);
        Due.state("its slot 0", () -> train.restore(0));
        Due.state("its slot 1", () -> train.restore(1));
        Due.same("its economy", 0f, train.economy());
        Due.same("the other object is another one", 5, other.about(6));
    }

    // ---- neighbors

    @Sentence(in = "EFFECTS",
        says = "The effect before another one is the last one of those with smaller numbers that work;")
    static void theEffectBeforeIsTheLastSmallerOneThatWorks() {
        EffectTrain train = six();
        Due.same("before 0", NONE, train.neighbor(0, false));
        Due.same("before 1", 0, train.neighbor(1, false));
        Due.same("before 5", 4, train.neighbor(5, false));
        train.wash(4, 1);
        train.wash(3, 1);
        Due.same("before 5, 3 and 4 are washed", 2, train.neighbor(5, false));
        train.wash(2, 1);
        train.wash(1, 1);
        Due.same("before 5, 0 alone works", 0, train.neighbor(5, false));
        train.wash(0, 1);
        Due.same("before 5, none works", NONE, train.neighbor(5, false));
        train.tick(1);
        Due.same("before 5, all work again", 4, train.neighbor(5, false));
    }

    @Sentence(in = "EFFECTS", says = "the effect behind it is the first one of those with greater numbers that work")
    static void theEffectBehindIsTheFirstGreaterOneThatWorks() {
        EffectTrain train = six();
        Due.same("behind 5", NONE, train.neighbor(5, true));
        Due.same("behind 4", 5, train.neighbor(4, true));
        Due.same("behind 0", 1, train.neighbor(0, true));
        train.wash(1, 1);
        train.wash(2, 1);
        Due.same("behind 0, 1 and 2 are washed", 3, train.neighbor(0, true));
        train.wash(3, 1);
        train.wash(4, 1);
        Due.same("behind 0, 5 alone works", 5, train.neighbor(0, true));
        train.wash(5, 1);
        Due.same("behind 0, none works", NONE, train.neighbor(0, true));
        train.tick(1);
        Due.same("behind 0, all work again", 1, train.neighbor(0, true));
    }

    @Sentence(in = "EFFECTS", says = "(both are told also of an effect that is washed).")
    static void neighborsAreToldOfAWashedEffectToo() {
        EffectTrain train = cleanTrain(3);
        train.wash(1, 20);
        Due.same("before the washed one", 0, train.neighbor(1, false));
        Due.same("behind the washed one", 2, train.neighbor(1, true));
        train.wash(0, 20);
        train.wash(2, 20);
        for (int i = 0; i < 3; i++) {
            Due.same("before " + i + ", all are washed", NONE, train.neighbor(i, false));
            Due.same("behind " + i + ", all are washed", NONE, train.neighbor(i, true));
        }
    }
}
