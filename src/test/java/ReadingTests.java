/** The promises 6 (about) to 11 (share): what there is. */
final class ReadingTests extends Bench {
    private static final int[] WRONG_WHATS = {-1, 10, NONE, 256, MIN, MAX};
    private static final String DRY = effect(9, 0, 0, 0, 0, 0);

    private ReadingTests() {
    }

    // ---- about

    @Sentence(in = "Promise 6", says = {"Returns a number.",
        "`what`: 0: n; 1: the steam; 2: the feed of water; 3: the feed of solids; 4: the interval; 5: the length;"
        + " 6: the clock; 7: the number of effects that are washed; 8: the sum of the water of all effects;"
        + " 9: the sum of their solids", "Returns that number."})
    static void aboutFrom0To9() {
        EffectTrain train = train(11, 22, 33, 44, 15, effect(1, 6, 60, 0, 0, 0), effect(1, 7, 70, 0, 0, 0),
            effect(1, 8, 80, 0, 0, 0));
        aboutIs("loaded", train, 3, 11, 22, 33, 44, 15, 0, 0, 21, 210);
        train.set(1, 0);
        train.set(2, 0);
        train.wash(0, 3);
        train.wash(2, 2);
        train.tick(2);
        // the scale is 0, so no turn begins; the steam comes to the effect 1: 10 * 1 / 10 is its power
        aboutIs("two ticks later", train, 3, 11, 0, 0, 44, 15, 2, 1, 21 - 7, 210);
    }

    @Sentence(in = "Promise 6", says = "7: the number of effects that are washed;")
    static void aboutTheWashedFromNoneToAll() {
        EffectTrain train = six();
        for (int i = 0; i < 6; i++) {
            Due.same("washed before " + i, i, train.about(7));
            train.wash(i, 1 + i);
        }
        for (int washed = 6; washed > 0; washed--) {
            Due.same("washed", washed, train.about(7));
            train.tick(1);
        }
        Due.same("washed at last", 0, train.about(7));
    }

    @Sentence(in = "Promise 6", says = {"8: the sum of the water of all effects;", "9: the sum of their solids"})
    static void aboutTheSumsFromNothingToAllThereCanBe() {
        Due.same("water of a new object", 0, new EffectTrain().about(8));
        Due.same("solids of a new object", 0, new EffectTrain().about(9));
        String full = effect(1, 4000, 1000, 0, 0, 0);
        EffectTrain train = train(0, 0, 0, 0, 5, full, full, full, full, full, full);
        train.wash(5, 20);
        Due.same("all water, also of a washed effect", 24000, train.about(8));
        Due.same("all solids, also of a washed effect", 6000, train.about(9));
    }

    @Sentence(in = "Promise 6", says = "Throws `IllegalArgumentException` if what is not 0 to 9")
    static void aboutOfAnotherWhat() {
        for (int what : WRONG_WHATS) {
            refusedArgument("about " + what, Bench::busy, x -> x.about(what));
        }
    }

    // ---- total

    @Sentence(in = "Promise 7", says = {"Returns a count.",
        "`what`: 0: steam used; 1: vapor; 2: bled vapor; 3: condensed vapor; 4: lost heat; 5: water fed; 6: solids fed;"
        + " 7: water of the product; 8: solids of the product; 9: ticks in which the feed was held back",
        "Returns that count."})
    static void totalFrom0To9() {
        EffectTrain train = train(BUSY);
        countsAre("at first", train, 0, 0, 0, 0, 0, 0, 0, 0, 0, 0);
        train.tick(1);
        countsAre("after a tick", train, 80, 71, 14, 21, 45, 100, 20, 40, 10, 0);
        train.wash(0, 1);
        train.wash(1, 1);
        train.tick(1);
        countsAre("after a tick in which none works", train, 80, 71, 14, 21, 45, 100, 20, 40, 10, 1);
    }

    @Sentence(in = "Promise 7", says = "Throws `IllegalArgumentException` if what is not 0 to 9")
    static void totalOfAnotherWhat() {
        for (int what : WRONG_WHATS) {
            refusedArgument("total " + what, Bench::busy, x -> x.total(what));
        }
    }

    // ---- effect

    @Sentence(in = "Promise 8", says = {"Returns a number of an effect.",
        "`what`: 0: its area; 1: its water; 2: its solids; 3: its valve; 4: its bleed; 5: its scale; 6: its growth;"
        + " 7: the ticks of washing that are left (0 if it works); 8: its thickness; 9: its power",
        "Returns that number."})
    static void effectFrom0To9() {
        EffectTrain train = train(BUSY);
        effectIs("loaded", train, 0, 5, 900, 100, 200, 25, 0, 0, 0, 10, 50);
        effectIs("loaded", train, 1, 4, 400, 100, 50, 10, 6, 0, 0, 20, 25);
        train.tick(1);
        effectIs("after a tick", train, 0, 5, 773, 99, 200, 25, 0, 48, 0, 11, 50);
        effectIs("after a tick", train, 1, 4, 516, 111, 50, 10, 6, 46, 0, 17, 25);
        train.wash(1, 20);
        train.tick(1);
        effectIs("washed for a tick", train, 1, 4, 516, 111, 50, 10, 1, 46, 19, 17, 36);
    }

    @Sentence(in = "Promise 8", says = "7: the ticks of washing that are left (0 if it works);")
    static void ticksLeftFrom20To0() {
        EffectTrain train = six();
        train.wash(5, 20);
        for (int left = 20; left > 0; left--) {
            Due.same("ticks left", left, train.effect(5, 7));
            train.tick(1);
        }
        Due.same("ticks left when it works", 0, train.effect(5, 7));
        Due.same("ticks left of another one", 0, train.effect(0, 7));
    }

    @Sentence(in = "Promise 8", says = {"`i`: effect", "Throws `IndexOutOfBoundsException` if there is no such effect"})
    static void effectOfNoSuchEffect() {
        for (int i : new int[] {-1, 2, 6, NONE, MIN, MAX}) {
            refusedIndex("effect " + i, Bench::busy, x -> x.effect(i, 0));
            refusedIndex("effect " + i + " of another what", Bench::busy, x -> x.effect(i, 10));
        }
        refusedIndex("effect 6 of six", Bench::six, x -> x.effect(6, 9));
        Due.call("effect 5 of six", 6, () -> six().effect(5, 0));
    }

    @Sentence(in = "Promise 8", says = "Throws `IllegalArgumentException` if what is not 0 to 9")
    static void effectOfAnotherWhat() {
        for (int what : WRONG_WHATS) {
            refusedArgument("effect 0, " + what, Bench::busy, x -> x.effect(0, what));
            refusedArgument("effect 5, " + what, Bench::six, x -> x.effect(5, what));
        }
    }

    // ---- neighbor

    @Sentence(in = "Promise 9", says = {"Returns a neighbor of an effect.",
        "`behind`: true for the effect behind it, false for the one before it"})
    static void neighborBehindAndBefore() {
        EffectTrain train = six();
        for (int i = 1; i < 5; i++) {
            Due.same("behind " + i, i + 1, train.neighbor(i, true));
            Due.same("before " + i, i - 1, train.neighbor(i, false));
        }
        train.wash(3, 1);
        Due.same("behind 2", 4, train.neighbor(2, true));
        Due.same("before 4", 2, train.neighbor(4, false));
    }

    @Sentence(in = "Promise 9", says = "Returns that effect; NONE if there is none.")
    static void noNeighborAtTheEnds() {
        for (EffectTrain train : new EffectTrain[] {new EffectTrain(), six()}) {
            int last = train.about(0) - 1;
            Due.same("before 0", NONE, train.neighbor(0, false));
            Due.same("behind " + last, NONE, train.neighbor(last, true));
            Due.same("behind 0", 1, train.neighbor(0, true));
            Due.same("before " + last, last - 1, train.neighbor(last, false));
        }
        EffectTrain train = new EffectTrain();
        train.wash(1, 1);
        Due.same("behind 0, 1 is washed", NONE, train.neighbor(0, true));
        Due.same("before 1, 0 works", 0, train.neighbor(1, false));
        train.wash(0, 1);
        Due.same("before 1, 0 is washed", NONE, train.neighbor(1, false));
        Due.same("NONE", -9, EffectTrain.NONE);
    }

    @Sentence(in = "Promise 9", says = {"`i`: effect", "Throws `IndexOutOfBoundsException` if there is no such effect"})
    static void neighborOfNoSuchEffect() {
        for (boolean behind : new boolean[] {true, false}) {
            for (int i : new int[] {-1, 2, NONE, MIN, MAX}) {
                refusedIndex("neighbor " + i + " " + behind, Bench::busy, x -> x.neighbor(i, behind));
            }
            refusedIndex("neighbor 6 of six " + behind, Bench::six, x -> x.neighbor(6, behind));
        }
    }

    // ---- economy and share

    @Sentence(in = "Promise 10",
        says = "Returns the vapor so far divided by the steam used so far, both converted to float;")
    static void economyOfTheCounts() {
        EffectTrain train = train(BUSY);
        train.tick(1);
        Due.same("economy", 71f / 80f, train.economy());
        EffectTrain one = train(1, 0, 0, 0, 5, effect(9, 9, 0, 0, 0, 0), effect(9, 9, 0, 0, 0, 0));
        one.tick(1);
        Due.same("economy of the steam 1", 2f, one.economy());
        // all steam is lost
        EffectTrain dry = train(999, 0, 0, 0, 5, DRY, DRY);
        dry.tick(99);
        Due.same("economy without vapor", 0f, dry.economy());
    }

    @Sentence(in = "Promise 10", says = "both converted to float;")
    static void economyBeyondWhatFloatHoldsExactly() {
        // above 2 to the power of 24 a steam used that is odd is rounded when it becomes a float
        EffectTrain train = train(999, 90, 0, 0, 5, effect(9, 90, 0, 0, 0, 0), DRY);
        boolean otherwise = false;
        for (int k = 0; k < 200; k++) {
            train.tick(99);
            int vapor = 90 * 99 * (k + 1);
            int steam = 999 * 99 * (k + 1);
            float due = (float) vapor / (float) steam;
            otherwise |= due != (float) ((double) vapor / (double) steam);
            Due.same("economy of " + vapor + " and " + steam, due, train.economy());
        }
        Due.same("a rounding that is seen", true, otherwise);
    }

    @Sentence(in = "Promise 10", says = "0 if no steam has been used.")
    static void economyWithoutSteam() {
        Due.same("economy of a new object", 0f, new EffectTrain().economy());
        EffectTrain none = new EffectTrain();
        none.set(0, 0);
        none.tick(99);
        Due.same("economy of the steam 0", 0f, none.economy());
        EffectTrain washed = train(BUSY);
        washed.wash(0, 20);
        washed.wash(1, 20);
        washed.tick(20);
        Due.same("economy when none works", 0f, washed.economy());
        washed.tick(1);
        washed.undo();
        Due.same("economy after undo", 0f, washed.economy());
    }

    @Sentence(in = "Promise 11", says = "Returns that number; 0 without any amount.")
    static void shareWithoutAnyAmount() {
        Due.same("share of an empty effect", 0f, new EffectTrain().share(1));
        EffectTrain emptied = train(0, 0, 0, 0, 5, effect(9, 1, 1, 2, 0, 0), effect(9, 0, 0, 0, 0, 0));
        Due.same("share of two units", 0.5f, emptied.share(0));
        emptied.tick(1);
        Due.same("share of an effect that has been emptied", 0f, emptied.share(0));
        Due.same("share of an effect that has been filled", 0.5f, emptied.share(1));
    }

    @Sentence(in = "Promise 11",
        says = "Returns how thick an effect is: its solids divided by its amount, both converted to float.")
    static void shareFrom0To1() {
        Object[][] cases = {{1, 0, 0f}, {4000, 0, 0f}, {0, 1, 1f}, {0, 1000, 1f}, {4000, 1000, 0.2f},
            {2, 1, 1f / 3f}, {1, 2, 2f / 3f}, {3999, 1, 1f / 4000f}, {1, 999, 999f / 1000f}};
        for (Object[] c : cases) {
            EffectTrain train = train(0, 0, 0, 0, 5, DRY, effect(9, (int) c[0], (int) c[1], 0, 0, 0));
            Due.same("share of " + c[0] + " and " + c[1], c[2], train.share(1));
        }
    }

    @Sentence(in = "Promise 11",
        says = {"`i`: effect", "Throws `IndexOutOfBoundsException` if there is no such effect"})
    static void shareOfNoSuchEffect() {
        for (int i : new int[] {-1, 2, NONE, MIN, MAX}) {
            refusedIndex("share " + i, Bench::busy, x -> x.share(i));
        }
        refusedIndex("share 6 of six", Bench::six, x -> x.share(6));
        Due.call("share 5 of six", 60f / 660f, () -> six().share(5));
    }
}
