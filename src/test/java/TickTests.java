/** The section A TICK of the document: its five parts, and the counts. */
final class TickTests extends Bench {
    private static final String CLEAN = effect(9, 4000, 0, 0, 0, 0);
    private static final String DRY = effect(9, 0, 0, 0, 0, 0);

    private TickTests() {
    }

    /** Two effects of pure water without flows, with scale. */
    private static EffectTrain scaled(int interval, int length, int scale0, int scale1) {
        return train(50, 0, 0, interval, length, effect(9, 4000, 0, 0, 0, scale0), effect(9, 4000, 0, 0, 0, scale1));
    }

    // ---- part 1: turns

    @Sentence(in = "A TICK", says = "1. If the interval is not 0,")
    static void part1NoTurnsWithTheInterval0() {
        EffectTrain train = scaled(0, 5, 50, 60);
        for (int k = 0; k < 100; k++) {
            train.tick(1);
            Due.same("washed at the interval 0", 0, train.about(7));
        }
        eachIs("interval 0", train, 5, 50, 60);
    }

    @Sentence(in = "A TICK", says = "the clock is a multiple of it (0 is one),")
    static void part1TheClock0IsAMultiple() {
        for (int interval : new int[] {1, 2, 50, 99}) {
            EffectTrain train = scaled(interval, 5, 50, 60);
            train.tick(1);
            eachIs("clock 0 and the interval " + interval, train, 7, 0, 4);
        }
    }

    @Sentence(in = "A TICK", says = "the clock is a multiple of it (0 is one),")
    static void part1TurnsAtMultiplesOfTheClockAlone() {
        EffectTrain train = scaled(3, 1, 50, 48);
        // the scales after the ticks with the clock 0, 1, 2 and so on
        int[][] due = {{45, 48}, {45, 48}, {45, 48}, {45, 43}, {45, 43}, {45, 43}, {40, 43}, {40, 43}};
        for (int[] scales : due) {
            train.tick(1);
            eachIs("interval 3 at the clock " + (train.about(6) - 1), train, 5, scales);
        }
        EffectTrain rare = scaled(99, 1, 50, 48);
        rare.tick(99);
        eachIs("interval 99 at the clock 98", rare, 5, 45, 48);
        rare.tick(1);
        eachIs("interval 99 at the clock 99", rare, 5, 45, 43);
        EffectTrain often = scaled(1, 1, 50, 48);
        often.tick(3);
        eachIs("interval 1 in three ticks", often, 5, 40, 43);
    }

    @Sentence(in = "A TICK", says = "and all effects work,")
    static void part1NoTurnWhileAnyEffectIsWashed() {
        EffectTrain train = scaled(1, 5, 50, 60);
        train.wash(0, 2);
        train.tick(1);
        eachIs("the last but one tick of a wash", train, 7, 1, 0);
        train.tick(1);
        eachIs("the last tick of a wash", train, 7, 0, 0);
        train.tick(1);
        eachIs("the tick after it", train, 7, 0, 4);
        EffectTrain last = scaled(1, 5, 60, 50);
        last.wash(1, 2);
        last.tick(1);
        eachIs("the last one is washed", last, 7, 0, 1);
        last.tick(2);
        eachIs("then the turn of the first one begins", last, 7, 4, 0);
    }

    @Sentence(in = "A TICK", says = "the effect with the most scale (among several the first one) begins to be washed,")
    static void part1TheFirstOneOfThoseWithTheMostScale() {
        int[][] scales = {{10, 30, 20, 30, 0, 29}, {7, 7, 7, 7, 7, 7}, {0, 0, 0, 0, 0, 1}, {0, 99, 98, 99, 99, 0},
            {5, 4, 4, 4, 4, 4}, {4, 4, 4, 4, 5, 4}};
        int[] due = {1, 0, 5, 1, 0, 4};
        for (int k = 0; k < due.length; k++) {
            String[] effects = new String[6];
            for (int i = 0; i < 6; i++) {
                effects[i] = effect(9, 100, 0, 0, 0, scales[k][i]);
            }
            EffectTrain train = train(50, 0, 0, 99, 5, effects);
            train.tick(1);
            for (int i = 0; i < 6; i++) {
                Due.same("case " + k + ", ticks left of " + i, i == due[k] ? 4 : 0, train.effect(i, 7));
            }
        }
    }

    @Sentence(in = "A TICK", says = "for as many ticks as the length,")
    static void part1ForAsManyTicksAsTheLength() {
        for (int length : new int[] {1, 2, 19, 20}) {
            EffectTrain train = scaled(99, length, 0, 99);
            for (int left = length - 1; left >= 0; left--) {
                train.tick(1);
                eachIs("the length " + length, train, 7, 0, left);
            }
            train.tick(1);
            eachIs("the length " + length + ", after it", train, 7, 0, 0);
        }
    }

    @Sentence(in = "A TICK", says = "if its scale is above 0")
    static void part1NoTurnWithoutScale() {
        EffectTrain clean = scaled(1, 5, 0, 0);
        clean.tick(1);
        eachIs("scale 0", clean, 7, 0, 0);
        Due.same("both boil", 100, clean.total(1));
        EffectTrain little = scaled(1, 5, 0, 1);
        little.tick(1);
        eachIs("scale 1", little, 7, 0, 4);
    }

    @Sentence(in = "A TICK", says = "(this tick counts already, see 4).")
    static void part1TheTickOfTheTurnCountsAlready() {
        EffectTrain train = scaled(99, 1, 25, 5);
        train.tick(1);
        eachIs("the wash is over", train, 7, 0, 0);
        eachIs("it has washed", train, 5, 20, 5);
        eachIs("the washed one has not boiled", train, 1, 4000, 3950);
        train.tick(1);
        // the power is 900 / 30 = 30 now
        eachIs("then it boils", train, 1, 3970, 3920);
    }

    // ---- part 2: boiling

    @Sentence(in = "A TICK", says = {"2. The effects that work boil, in ascending order:",
        "the heat of the first one of them is the steam;"})
    static void part2TheSteamHeatsTheFirstThatWorks() {
        EffectTrain train = train(50, 0, 0, 0, 5, CLEAN, CLEAN, CLEAN);
        train.wash(0, 1);
        train.tick(1);
        eachIs("0 is washed", train, 1, 4000, 3950, 3950);
        train.wash(0, 1);
        train.wash(1, 1);
        train.tick(1);
        eachIs("2 alone works", train, 1, 4000, 3950, 3900);
        train.wash(0, 1);
        train.wash(1, 1);
        train.wash(2, 1);
        train.tick(1);
        eachIs("none works", train, 1, 4000, 3950, 3900);
        train.set(0, 0);
        train.tick(1);
        eachIs("no steam", train, 1, 4000, 3950, 3900);
        countsAre("no steam", train, 100, 150, 0, 100, 0);
    }

    @Sentence(in = "A TICK", says = "the heat of each other one is the vapor of the one before it that is passed on.")
    static void part2TheVaporThatIsPassedOnHeatsTheNextThatWorks() {
        // 40 - 4 are passed on to the next one that works
        EffectTrain train = train(40, 0, 0, 0, 5, effect(9, 4000, 0, 0, 10, 0), CLEAN, CLEAN);
        train.tick(1);
        eachIs("all work", train, 1, 3960, 3964, 3964);
        train.wash(1, 1);
        train.tick(1);
        eachIs("1 is washed", train, 1, 3920, 3964, 3928);
        EffectTrain dry = train(40, 0, 0, 0, 5, DRY, CLEAN);
        dry.tick(1);
        eachIs("a dry one passes nothing on", dry, 1, 0, 4000);
        countsAre("a dry one passes nothing on", dry, 40, 0, 0, 0, 40);
    }

    @Sentence(in = "A TICK", says = "The vapor is the smaller one of the heat and the power;")
    static void part2VaporIsTheSmallerOneOfHeatAndPower() {
        // the power of the area 5 is 50
        int[][] steamAndVapor = {{0, 0}, {1, 1}, {49, 49}, {50, 50}, {51, 50}, {999, 50}};
        for (int[] heat : steamAndVapor) {
            EffectTrain train = train(heat[0], 0, 0, 0, 5, effect(5, 4000, 0, 0, 0, 0), DRY);
            Due.same("vapor of the steam " + heat[0], heat[1], train.tick(1));
        }
        // 100 / 109 is a power of 0
        EffectTrain weak = train(50, 0, 0, 0, 5, effect(1, 4000, 0, 0, 0, 99), DRY);
        Due.same("vapor of the power 0", 0, weak.tick(1));
    }

    @Sentence(in = "A TICK", says = "then it decreases by vapor * thickness / 200, rounded down;")
    static void part2ThickLiquorGivesLessVapor() {
        // steam, water, solids, vapor: 10 * 19 / 200 is 0, 10 * 20 / 200 is 1, 20 * 19 / 200 is 1, 20 * 20 / 200 is 2
        int[][] cases = {{10, 81, 19, 10}, {10, 80, 20, 9}, {20, 81, 19, 19}, {20, 80, 20, 18}, {21, 81, 19, 20},
            {22, 81, 19, 20}, {90, 1000, 1000, 68}, {4, 50, 50, 3}, {3, 50, 50, 3}, {1, 10, 990, 1}, {2, 10, 990, 2},
            {3, 10, 990, 2}, {200, 0, 1000, 0}, {50, 100, 0, 50}};
        for (int[] c : cases) {
            EffectTrain train = train(c[0], 0, 0, 0, 5, effect(9, c[1], c[2], 0, 0, 0), DRY);
            Due.same("vapor of " + c[0] + " in " + c[1] + " and " + c[2], c[3], train.tick(1));
        }
    }

    @Sentence(in = "A TICK", says = {"then it is at most the water.", "The water decreases by the vapor."})
    static void part2VaporIsAtMostTheWater() {
        int[][] waterAndVapor = {{0, 0}, {1, 1}, {9, 9}, {10, 10}, {11, 10}};
        for (int[] water : waterAndVapor) {
            EffectTrain train = train(10, 0, 0, 0, 5, effect(9, water[0], 0, 0, 0, 0), DRY);
            Due.same("vapor of the water " + water[0], water[1], train.tick(1));
            Due.same("the water that is left of " + water[0], water[0] - water[1], train.effect(0, 1));
        }
        // first less because it is thick, 50 - 5, and only then at most the water
        EffectTrain thick = train(50, 0, 0, 0, 5, effect(9, 40, 10, 0, 0, 0), DRY);
        Due.same("all water of a thick liquor", 40, thick.tick(1));
    }

    @Sentence(in = "A TICK", says = "Of the vapor, vapor * bleed / 100, rounded down, is bled,")
    static void part2BledVaporIsRoundedDown() {
        int[][] vaporBleedBled = {{10, 0, 0}, {10, 9, 0}, {10, 10, 1}, {10, 19, 1}, {10, 20, 2}, {10, 90, 9},
            {11, 9, 0}, {23, 13, 2}, {1, 90, 0}, {2, 50, 1}, {2, 49, 0}, {90, 90, 81}, {89, 90, 80}, {0, 90, 0}};
        for (int[] c : vaporBleedBled) {
            EffectTrain train = train(c[0], 0, 0, 0, 5, effect(9, 4000, 0, 0, c[1], 0), DRY);
            train.tick(1);
            countsAre("bleed " + c[1] + " of " + c[0], train, c[0], c[0], c[2], 0, c[0] - c[2]);
        }
    }

    @Sentence(in = "A TICK", says = "and the rest is passed on (that of the last one is condensed).")
    static void part2TheRestOfTheLastThatWorksIsCondensed() {
        EffectTrain train = train(40, 0, 0, 0, 5, effect(9, 4000, 0, 0, 10, 0), effect(9, 4000, 0, 0, 50, 0));
        train.tick(1);
        countsAre("both work", train, 40, 76, 4 + 18, 18, 0);
        train.wash(1, 1);
        train.tick(1);
        countsAre("0 is the last that works", train, 80, 116, 22 + 4, 18 + 36, 0);
        train.wash(0, 1);
        train.wash(1, 1);
        train.tick(1);
        countsAre("none works", train, 80, 116, 26, 54, 0);
    }

    @Sentence(in = "A TICK", says = "The heat minus the vapor is lost.")
    static void part2TheHeatThatMakesNoVaporIsLost() {
        // the power 50: 49 and 0; 50 and 0; 51 and 1 lost; the next one has the same power
        int[][] steamAndLost = {{0, 0}, {49, 0}, {50, 0}, {51, 1}, {999, 949}};
        for (int[] heat : steamAndLost) {
            EffectTrain train = train(heat[0], 0, 0, 0, 5, effect(5, 4000, 0, 0, 0, 0), effect(5, 4000, 0, 0, 0, 0));
            train.tick(1);
            Due.same("lost of the steam " + heat[0], heat[1], train.total(4));
        }
        EffectTrain dry = train(60, 0, 0, 0, 5, DRY, CLEAN);
        dry.tick(1);
        Due.same("lost without any water", 60, dry.total(4));
    }

    @Sentence(in = "A TICK", says = "The growth increases by vapor * thickness / 10, rounded down")
    static void part2GrowthIsRoundedDown() {
        // vapor times the thickness 1
        int[][] steamAndGrowth = {{0, 0}, {9, 0}, {10, 1}, {19, 1}, {20, 2}, {89, 8}, {90, 9}};
        for (int[] heat : steamAndGrowth) {
            EffectTrain train = train(heat[0], 0, 0, 0, 5, effect(9, 990, 10, 0, 0, 0), DRY);
            train.tick(1);
            Due.same("growth by the steam " + heat[0], heat[1], train.effect(0, 6));
        }
        EffectTrain clean = scaled(0, 5, 0, 0);
        clean.tick(99);
        eachIs("growth in pure water", clean, 6, 0, 0);
    }

    @Sentence(in = "A TICK", says = "(the thickness from before the boiling);")
    static void part2GrowthByTheThicknessFromBeforeTheBoiling() {
        // thickness 50: 40 - 10 = 30 of vapor; then it is 71
        EffectTrain train = train(40, 0, 0, 0, 5, effect(9, 50, 50, 0, 0, 0), DRY);
        train.tick(1);
        effectIs("boiled", train, 0, 9, 20, 50, 0, 0, 0, 150, 0, 71);
    }

    @Sentence(in = "A TICK", says = "for each 1000 in it, the scale increases by 1,")
    static void part2TheScaleGrowsAt1000() {
        // 200 a tick: exactly 1000; and 333 a tick: 999 and 1332
        EffectTrain round = train(53, 40, 0, 0, 5, effect(9, 1000, 1000, 0, 0, 6), DRY);
        round.tick(4);
        effectIs("growth 800", round, 0, 9, 1000, 1000, 0, 0, 6, 800);
        round.tick(1);
        effectIs("growth 1000", round, 0, 9, 1000, 1000, 0, 0, 7, 0);
        EffectTrain below = train(85, 63, 0, 0, 5, effect(9, 886, 1000, 0, 0, 0), DRY);
        below.tick(3);
        effectIs("growth 999", below, 0, 9, 886, 1000, 0, 0, 0, 999);
        below.tick(1);
        effectIs("growth 1332", below, 0, 9, 886, 1000, 0, 0, 1, 332);
    }

    @Sentence(in = "A TICK", says = "to at most 99, and these 1000 are removed (also if the scale is 99).")
    static void part2TheScaleIsAtMost99() {
        // a power of 8: 6 of vapor, 30 of growth a tick
        EffectTrain train = train(8, 6, 0, 0, 5, effect(9, 1000, 1000, 0, 0, 98), DRY);
        train.tick(33);
        effectIs("33 ticks", train, 0, 9, 1000, 1000, 0, 0, 98, 990);
        train.tick(1);
        effectIs("34 ticks", train, 0, 9, 1000, 1000, 0, 0, 99, 20);
        train.tick(32);
        effectIs("66 ticks", train, 0, 9, 1000, 1000, 0, 0, 99, 980);
        train.tick(1);
        effectIs("67 ticks", train, 0, 9, 1000, 1000, 0, 0, 99, 10);
    }

    // ---- part 3: flows

    @Sentence(in = "A TICK", says = "3. All flows are computed from the amounts and rooms that there are then:")
    static void part3AllFlowsAreComputedFirst() {
        EffectTrain train = train(0, 0, 0, 0, 5, effect(5, 100, 0, 30, 0, 0), effect(5, 10, 0, 30, 0, 0),
            effect(5, 0, 0, 30, 0, 0));
        train.tick(1);
        eachIs("what comes does not flow on yet", train, 1, 70, 30, 10);
        Due.same("no product yet", 0, train.total(7));
        EffectTrain full = train(0, 0, 0, 0, 5, effect(5, 100, 0, 30, 0, 0), effect(5, 4000, 1000, 500, 0, 0));
        full.tick(1);
        eachIs("what goes makes no room yet", full, 1, 100, 3600);
        full.tick(1);
        eachIs("a tick later there is room", full, 1, 70, 3230);
        // the room is that from after the boiling: the second one boils 40 away
        EffectTrain boiled = train(40, 0, 0, 0, 5, effect(9, 4000, 0, 999, 0, 0), effect(9, 4000, 1000, 0, 0, 0));
        boiled.tick(1);
        eachIs("room by boiling", boiled, 1, 4000 - 40 - 36, 4000);
        Due.same("vapor", 76, boiled.total(1));
    }

    @Sentence(in = "A TICK",
        says = "from each effect that works flows as much as its valve tells, but at most its amount,")
    static void part3AFlowIsAtMostTheAmount() {
        int[][] valveAndFlow = {{0, 0}, {1, 1}, {9, 9}, {10, 10}, {11, 10}, {999, 10}};
        for (int[] c : valveAndFlow) {
            EffectTrain train = train(0, 0, 0, 0, 5, effect(5, 10, 0, c[0], 0, 0), effect(5, 0, 0, 0, 0, 0));
            train.tick(1);
            eachIs("the valve " + c[0], train, 1, 10 - c[1], c[1]);
        }
        EffectTrain empty = train(0, 0, 0, 0, 5, effect(5, 0, 0, 999, 0, 0), effect(5, 0, 0, 999, 0, 0));
        empty.tick(1);
        eachIs("no amount", empty, 1, 0, 0);
        countsAre("no amount", empty, 0, 0, 0, 0, 0, 0, 0, 0, 0, 0);
        EffectTrain washed = train(0, 0, 0, 0, 5, effect(5, 10, 0, 999, 0, 0), effect(5, 20, 0, 999, 0, 0));
        washed.wash(0, 1);
        washed.wash(1, 2);
        washed.tick(1);
        eachIs("washed ones", washed, 1, 10, 20);
    }

    @Sentence(in = "A TICK", says = "and at most the room of the effect behind it;")
    static void part3AFlowIsAtMostTheRoomOfTheEffectBehind() {
        int[][] valveAndFlow = {{0, 0}, {9, 9}, {10, 10}, {11, 10}, {999, 10}};
        for (int[] c : valveAndFlow) {
            EffectTrain train = train(0, 0, 0, 0, 5, effect(5, 100, 0, c[0], 0, 0), effect(5, 4000, 990, 0, 0, 0));
            train.tick(1);
            eachIs("a room of 10, the valve " + c[0], train, 1, 100 - c[1], 4000 + c[1]);
        }
        EffectTrain over = train(0, 0, 0, 0, 5, effect(5, 100, 0, 50, 0, 0), effect(5, 4000, 1000, 0, 0, 0),
            effect(5, 3998, 1000, 0, 0, 0));
        over.tick(1);
        eachIs("no room behind", over, 1, 100, 4000, 3998);
        over.wash(1, 1);
        over.tick(1);
        eachIs("the room of the next one that works", over, 1, 98, 4000, 4000);
    }

    @Sentence(in = "A TICK",
        says = "from the last one that works it flows out as product, without that limit.")
    static void part3TheProductHasNoLimit() {
        EffectTrain train = train(0, 0, 0, 0, 5, DRY, effect(5, 4000, 1000, 999, 0, 0));
        train.tick(1);
        // 1000 * 999 / 5000 = 199 are solids
        effectIs("the last one", train, 1, 5, 3200, 801);
        countsAre("the product", train, 0, 0, 0, 0, 0, 0, 0, 800, 199, 0);
        EffectTrain first = train(0, 0, 0, 0, 5, effect(5, 100, 0, 40, 0, 0), effect(5, 4000, 1000, 999, 0, 0));
        first.wash(1, 1);
        first.tick(1);
        eachIs("0 is the last that works", first, 1, 60, 4000);
        Due.same("its product", 40, first.total(7));
    }

    @Sentence(in = "A TICK",
        says = "Of a flow, solids * flow / amount, rounded down, are solids, and the rest is water.")
    static void part3TheSolidsOfAFlowAreRoundedDown() {
        // water, solids, valve, and of the flow: water, solids
        int[][] cases = {{1, 1, 1, 1, 0}, {1, 2, 1, 1, 0}, {1, 2, 2, 1, 1}, {0, 3, 2, 0, 2}, {3, 0, 2, 2, 0},
            {99, 1, 99, 99, 0}, {99, 1, 100, 99, 1}, {50, 50, 3, 2, 1}, {50, 50, 4, 2, 2}, {4000, 1000, 4, 4, 0},
            {4000, 1000, 5, 4, 1}, {4000, 1000, 999, 800, 199}, {0, 1, 1, 0, 1}};
        for (int[] c : cases) {
            EffectTrain train = train(0, 0, 0, 0, 5, effect(5, c[0], c[1], c[2], 0, 0), effect(5, 0, 0, 0, 0, 0));
            train.tick(1);
            String what = c[0] + " and " + c[1] + ", the valve " + c[2];
            eachIs(what, train, 1, c[0] - c[3], c[3]);
            eachIs(what, train, 2, c[1] - c[4], c[4]);
        }
    }

    @Sentence(in = "A TICK", says = {"The feed comes to the first effect that works, all or nothing:",
        "if its room is less than the sum of both feeds,"})
    static void part3TheFeedComesWholeOrNotAtAll() {
        // a room of 5000 - 4000 - 900 = 100
        int[][] feedsAndHeld = {{90, 9, 0}, {90, 10, 0}, {91, 10, 1}, {90, 11, 1}, {100, 0, 0}, {101, 0, 1}, {1, 99, 0},
            {2, 99, 1}, {0, 0, 0}, {999, 99, 1}};
        for (int[] c : feedsAndHeld) {
            EffectTrain train = train(0, c[0], c[1], 0, 5, effect(5, 4000, 900, 0, 0, 0), effect(5, 5, 0, 0, 0, 0));
            train.tick(1);
            int come = 1 - c[2];
            String what = "feeds " + c[0] + " and " + c[1];
            eachIs(what, train, 1, 4000 + come * c[0], 5);
            eachIs(what, train, 2, 900 + come * c[1], 0);
            countsAre(what, train, 0, 0, 0, 0, 0, come * c[0], come * c[1], 0, 0, c[2]);
        }
        EffectTrain second = train(0, 30, 4, 0, 5, effect(5, 4000, 1000, 0, 0, 0), effect(5, 5, 0, 0, 0, 0));
        second.wash(0, 1);
        second.tick(1);
        eachIs("the second one is the first that works", second, 1, 4000, 35);
        eachIs("the second one is the first that works", second, 2, 1000, 4);
        second.tick(1);
        Due.same("held back from the full first one", 1, second.total(9));
    }

    @Sentence(in = "A TICK", says = "or no effect works (also if both feeds are 0), it is held back.")
    static void part3TheFeedIsHeldBackIfNoEffectWorks() {
        for (int feed : new int[] {0, 1}) {
            EffectTrain train = train(0, feed, 0, 0, 5, DRY, DRY);
            train.wash(0, 1);
            train.wash(1, 2);
            train.tick(1);
            countsAre("none works, the feed " + feed, train, 0, 0, 0, 0, 0, 0, 0, 0, 0, 1);
            train.tick(1);
            countsAre("one works, the feed " + feed, train, 0, 0, 0, 0, 0, feed, 0, 0, 0, 1);
        }
        EffectTrain full = train(0, 0, 0, 0, 5, effect(5, 4000, 1000, 0, 0, 0), effect(5, 4000, 1000, 0, 0, 0));
        full.tick(1);
        Due.same("feeds of 0 into no room are not held back", 0, full.total(9));
    }

    @Sentence(in = "A TICK", says = "Then all flows and the feed are carried out.")
    static void part3TheFeedFlowsOnATickLater() {
        EffectTrain train = train(0, 50, 5, 0, 5, effect(5, 0, 0, 999, 0, 0), effect(5, 0, 0, 999, 0, 0));
        train.tick(1);
        eachIs("fed", train, 1, 50, 0);
        train.tick(1);
        eachIs("flowed on", train, 1, 50, 50);
        Due.same("no product yet", 0, train.total(7) + train.total(8));
        train.tick(1);
        countsAre("the product", train, 0, 0, 0, 0, 0, 150, 15, 50, 5, 0);
        // what flows out makes no room for the feed of the same tick
        EffectTrain full = train(0, 1, 0, 0, 5, effect(5, 4000, 1000, 999, 0, 0), DRY);
        full.tick(1);
        countsAre("full ahead of the flow", full, 0, 0, 0, 0, 0, 0, 0, 0, 0, 1);
        full.tick(1);
        countsAre("room after the flow", full, 0, 0, 0, 0, 0, 1, 0, 0, 0, 1);
    }

    // ---- parts 4 and 5, and the counts

    @Sentence(in = "A TICK", says = "4. The scale of each effect that is washed decreases by 5, but not below 0,")
    static void part4TheScaleDecreasesBy5() {
        int[][] beforeAndAfter = {{0, 0}, {1, 0}, {4, 0}, {5, 0}, {6, 1}, {10, 5}, {99, 94}};
        for (int[] scale : beforeAndAfter) {
            EffectTrain train = scaled(0, 5, scale[0], scale[0]);
            train.wash(1, 1);
            train.tick(1);
            eachIs("washed from " + scale[0], train, 5, scale[0], scale[1]);
        }
        EffectTrain both = scaled(0, 5, 12, 13);
        both.wash(0, 2);
        both.wash(1, 3);
        both.tick(1);
        eachIs("both, 1 tick", both, 5, 7, 8);
        both.tick(1);
        eachIs("both, 2 ticks", both, 5, 2, 3);
        both.tick(1);
        eachIs("one, a third tick", both, 5, 2, 0);
    }

    @Sentence(in = "A TICK", says = "and its ticks that are left decrease by 1; at 0 it works again.")
    static void part4At0ItWorksAgain() {
        EffectTrain train = scaled(0, 5, 0, 0);
        train.wash(0, 2);
        train.wash(1, 1);
        train.tick(1);
        eachIs("a tick", train, 7, 1, 0);
        eachIs("none has boiled", train, 1, 4000, 4000);
        train.tick(1);
        eachIs("two ticks", train, 7, 0, 0);
        eachIs("the second one has boiled", train, 1, 4000, 3950);
        train.tick(1);
        eachIs("three ticks", train, 7, 0, 0);
        eachIs("both have boiled", train, 1, 3950, 3900);
    }

    @Sentence(in = "A TICK", says = "5. The clock, 0 at first, increases by 1.")
    static void part5TheClock() {
        EffectTrain train = scaled(0, 5, 0, 0);
        Due.same("the clock at first", 0, train.about(6));
        train.tick(1);
        Due.same("the clock after a tick", 1, train.about(6));
        train.wash(0, 20);
        train.wash(1, 20);
        train.tick(1);
        Due.same("the clock after a tick in which none works", 2, train.about(6));
        train.tick(99);
        Due.same("the clock after 99 more", 101, train.about(6));
    }

    @Sentence(in = "A TICK", says = {"The object counts, all from 0: steam that has been used",
        "(the steam of each tick in which any effect works, after part 1),"})
    static void steamIsUsedInTicksInWhichAnyEffectWorks() {
        EffectTrain train = scaled(0, 5, 0, 30);
        Due.same("steam used at first", 0, train.total(0));
        train.wash(0, 2);
        train.wash(1, 1);
        train.tick(1);
        Due.same("none works", 0, train.total(0));
        train.tick(1);
        Due.same("one works", 50, train.total(0));
        train.tick(1);
        Due.same("both work", 100, train.total(0));
        train.set(3, 1);
        train.tick(1);
        eachIs("a turn has begun", train, 7, 0, 4);
        Due.same("one works after part 1", 150, train.total(0));
        train.wash(0, 1);
        train.tick(1);
        Due.same("none works in the turn", 150, train.total(0));
        train.set(0, 0);
        train.tick(1);
        Due.same("no steam", 150, train.total(0));
    }

    @Sentence(in = "A TICK",
        says = {"vapor, bled vapor, condensed vapor, lost heat, water that was fed, solids that were fed,",
        "water of the product, solids of the product, and ticks in which the feed was held back."})
    static void theOtherCountsFrom0() {
        EffectTrain train = train(BUSY);
        countsAre("at first", train, 0, 0, 0, 0, 0, 0, 0, 0, 0, 0);
        train.tick(1);
        // the first one: 50 - 2 = 48, 12 bled; the second one: the power 25, 25 - 2 = 23, 2 bled
        countsAre("a tick", train, 80, 71, 14, 21, 32 + 13, 100, 20, 40, 10, 0);
        train.wash(0, 1);
        train.wash(1, 1);
        train.tick(1);
        countsAre("a tick in which none works", train, 80, 71, 14, 21, 45, 100, 20, 40, 10, 1);
    }
}
