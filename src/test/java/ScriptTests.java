import java.math.BigInteger;

/** The promises 25 (runScript) and 26 (simulate). */
final class ScriptTests extends Bench {
    private static final String CLEAN = effect(9, 4000, 0, 0, 0, 0);
    private static final String DRY = effect(9, 0, 0, 0, 0, 0);
    private static final int FAILS = 0;

    private ScriptTests() {
    }

    private static void script(int due, int n, long script) {
        Due.call("runScript " + n + " " + script + " on the busy text", due, () -> train(BUSY).runScript(n, script));
    }

    /** The first effect: thickness 10, scale 0; the second one: thickness 20, scale 6; nothing has been used. */
    private static void one(int due, int group) {
        script(due, 1, group);
    }

    // ---- runScript

    @Sentence(in = "Promise 25", says = "Runs a script on a copy of the state.")
    static void aScriptRunsOnACopy() {
        EffectTrain train = busy();
        train.runScript(3, 20007_30007_10099L);
        train.runScript(2, 40020_10001L);
        Due.same("what there is after scripts", everything(busy()), everything(train));
        // each script starts from the state itself
        EffectTrain again = train(BUSY);
        Due.same("a wash", NONE, again.runScript(2, 40020_70001L));
        Due.same("the same wash", NONE, again.runScript(2, 40020_70001L));
        Due.same("none is washed", NONE, again.runScript(1, 70000L));
    }

    @Sentence(in = "Promise 25", says = "A script has 1 to 3 commands;")
    static void aScriptHas1To3Commands() {
        script(NONE, 1, 41020L);
        script(NONE, 2, 41020_40001L);
        script(NONE, 3, 41020_40001_70002L);
        // a command that is left over is refused, one too few is 00000
        Due.argument("2 commands for 1", () -> six().runScript(1, 41020_40001L));
        Due.argument("3 commands for 2", () -> six().runScript(2, 41020_40001_70002L));
        script(0, 3, 41020_40001L);
    }

    @Sentence(in = "Promise 25", says = {"each is a group of five decimal digits d1 to d5,",
        "and the first command is the highest group of the number"})
    static void theFirstCommandIsTheHighestGroup() {
        script(NONE, 2, 41020_70001L);
        script(0, 2, 70001_41020L);
        script(NONE, 3, 41020_40001_70002L);
        script(2, 3, 41020_70001_40000L);
        script(0, 3, 70002_41020_40001L);
    }

    @Sentence(in = "Promise 25", says = "(with zeros before it, if it has fewer digits).")
    static void aScriptOfFewerDigitsHasZerosBeforeIt() {
        script(0, 1, 1L);
        script(0, 1, 9999L);
        script(0, 2, 41020L);
        script(0, 3, 41020L);
        script(0, 3, 41020_70001L);
        script(0, 3, 1L);
    }

    @Sentence(in = "Promise 25", says = "1 0 0 x y: lets xy ticks pass (01 to 99).")
    static void command1LetsTicksPass() {
        one(FAILS, 10000);
        one(NONE, 10001);
        one(NONE, 10099);
        one(FAILS, 10100);
        one(FAILS, 11001);
        // the ticks are counted by the steam that is used
        script(NONE, 2, 10001_80080L);
        script(1, 2, 10001_80079L);
        script(NONE, 2, 10012_80960L);
        script(1, 2, 10012_80959L);
        script(NONE, 3, 20010_10099_80990L);
        script(2, 3, 20010_10099_80989L);
    }

    @Sentence(in = "Promise 25", says = "2 0 x y z: the steam becomes xyz.")
    static void command2SetsTheSteam() {
        one(NONE, 20000);
        one(NONE, 20999);
        one(FAILS, 21000);
        one(FAILS, 29000);
        script(NONE, 3, 20000_10001_80000L);
        script(NONE, 3, 20999_10001_80999L);
        script(2, 3, 20999_10001_80998L);
    }

    @Sentence(in = "Promise 25", says = "3 i x y z: the valve of effect i becomes xyz.")
    static void command3SetsAValve() {
        one(NONE, 30000);
        one(NONE, 31999);
        one(FAILS, 32000);
        // of the second one are left, after a tick: 16 of 126 + 121 with the valve 427, 111 of 627 with the valve 50
        script(NONE, 2, 10001_51017L);
        script(1, 2, 10001_51018L);
        // the valve 0: 100 + 21 of 377 + 179 + 121; the valve 999 lets all flow: 21 of 200
        script(NONE, 3, 31000_10001_51017L);
        script(2, 3, 31000_10001_51018L);
        script(NONE, 3, 31999_10001_51010L);
        script(2, 3, 31999_10001_51011L);
    }

    @Sentence(in = "Promise 25", says = "4 i 0 x y: effect i begins to be washed for xy ticks.")
    static void command4Washes() {
        one(FAILS, 40000);
        one(NONE, 40001);
        one(NONE, 41020);
        one(FAILS, 41021);
        one(FAILS, 41099);
        one(FAILS, 41101);
        one(FAILS, 42001);
        script(NONE, 3, 41020_10019_70001L);
        script(NONE, 3, 41020_10020_70000L);
        script(NONE, 3, 41001_10001_61001L);
        script(2, 3, 41001_10001_61000L);
        script(1, 2, 41020_41001L);
        script(1, 2, 41001_41001L);
        script(NONE, 3, 41001_10001_41001L);
    }

    @Sentence(in = "Promise 25", says = "5 i 0 x y: succeeds if the thickness of effect i is at least xy.")
    static void command5LooksAtTheThickness() {
        one(NONE, 50000);
        one(NONE, 50009);
        one(NONE, 50010);
        one(FAILS, 50011);
        one(FAILS, 50099);
        one(NONE, 51020);
        one(FAILS, 51021);
        one(FAILS, 50110);
        one(FAILS, 52000);
        EffectTrain solid = train(0, 0, 0, 0, 5, effect(9, 0, 1, 0, 0, 0), DRY);
        Due.same("99 of 100", NONE, solid.runScript(1, 50099L));
        Due.same("0 of 0", NONE, solid.runScript(1, 51000L));
        Due.same("1 of 0", FAILS, solid.runScript(1, 51001L));
    }

    @Sentence(in = "Promise 25", says = "6 i 0 x y: succeeds if its scale is at most xy.")
    static void command6LooksAtTheScale() {
        one(NONE, 60000);
        one(NONE, 60099);
        one(FAILS, 61000);
        one(FAILS, 61005);
        one(NONE, 61006);
        one(NONE, 61007);
        one(NONE, 61099);
        one(FAILS, 61106);
        one(FAILS, 62099);
        EffectTrain most = train(0, 0, 0, 0, 5, effect(9, 0, 0, 0, 0, 99), DRY);
        Due.same("99 of 99", NONE, most.runScript(1, 60099L));
        Due.same("98 of 99", FAILS, most.runScript(1, 60098L));
    }

    @Sentence(in = "Promise 25", says = "7 0 0 0 w: succeeds if w effects are washed.")
    static void command7CountsTheWashed() {
        one(NONE, 70000);
        one(FAILS, 70001);
        one(FAILS, 70009);
        one(FAILS, 70010);
        one(FAILS, 70100);
        one(FAILS, 71000);
        EffectTrain all = six();
        for (int washed = 1; washed <= 6; washed++) {
            all.wash(washed - 1, 20);
            for (int w = 0; w <= 9; w++) {
                Due.same(w + " of " + washed, w == washed ? NONE : FAILS, all.runScript(1, 70000L + w));
            }
        }
    }

    @Sentence(in = "Promise 25", says = "8 0 x y z: succeeds if total(0), with what was used before, is at most xyz.")
    static void command8LooksAtTheSteamUsed() {
        one(NONE, 80000);
        one(NONE, 80999);
        one(FAILS, 81000);
        EffectTrain used = train(999, 0, 0, 0, 5, DRY, DRY);
        used.tick(1);
        Due.same("999 of 999", NONE, used.runScript(1, 80999L));
        Due.same("998 of 999", FAILS, used.runScript(1, 80998L));
        Due.same("what a command uses is added", 2, used.runScript(3, 20001_10001_80999L));
        Due.same("nothing is added", NONE, used.runScript(3, 20000_10099_80999L));
        used.set(0, 1);
        used.tick(1);
        Due.same("999 of 1000", FAILS, used.runScript(1, 80999L));
    }

    @Sentence(in = "Promise 25",
        says = "The commands 1 to 4 fail if the method with this effect would throw an exception;")
    static void commands1To4FailWhereTheMethodsWouldThrow() {
        one(FAILS, 10000);
        one(NONE, 10001);
        one(NONE, 20000);
        one(NONE, 20999);
        one(NONE, 31000);
        one(NONE, 31999);
        one(FAILS, 32000);
        one(FAILS, 40000);
        one(NONE, 40001);
        one(NONE, 40020);
        one(FAILS, 40021);
        script(1, 2, 40020_40001L);
        script(2, 3, 40020_10019_40001L);
        script(NONE, 3, 40020_10020_40001L);
    }

    @Sentence(in = "Promise 25", says = "commands with effects that do not exist fail,")
    static void commandsWithEffectsThatDoNotExistFail() {
        int[] commands = {30001, 40001, 50000, 60099};
        for (int command : commands) {
            for (int i = 0; i <= 9; i++) {
                long group = command + 1000 * i;
                Due.call("the group " + group + " on two effects", i < 2 ? NONE : FAILS,
                    () -> train(BUSY).runScript(1, group));
                Due.call("the group " + group + " on six effects", i < 6 ? NONE : FAILS,
                    () -> six().runScript(1, group));
            }
        }
    }

    @Sentence(in = "Promise 25", says = {"and so does any other group",
        "(also one with another digit where a 0 is written)."})
    static void anyOtherGroupFails() {
        int[] others = {0, 1, 9999, 90000, 99999};
        for (int group : others) {
            one(FAILS, group);
        }
        // each of these succeeds as it stands, and with each 0 that is written made another digit it fails
        int[] commands = {10001, 20100, 40001, 50001, 60099, 70000, 80100};
        int[][] written = {{1000, 100}, {1000}, {100}, {100}, {100}, {1000, 100, 10}, {1000}};
        for (int k = 0; k < commands.length; k++) {
            one(NONE, commands[k]);
            for (int place : written[k]) {
                for (int digit = 1; digit <= 9; digit++) {
                    one(FAILS, commands[k] + digit * place);
                }
            }
        }
    }

    @Sentence(in = "Promise 25", says = {
        "The commands 1 to 4 fail if the method with this effect would throw an exception;",
        "commands with effects that do not exist fail, and so does any other group",
        "(also one with another digit where a 0 is written)."})
    static void eachOfAllGroupsSucceedsOrFails() {
        EffectTrain train = sixInUse();
        for (int group = 0; group <= 99999; group++) {
            if (group % 300 == 0) {
                train = sixInUse();
            }
            boolean succeeds = train.runScript(1, group) == NONE;
            if (succeeds != isDue(group)) {
                Due.same("the group " + group + " succeeds", isDue(group), succeeds);
            }
        }
        Due.same("a group that fails", FAILS, train.runScript(1, 99999L));
    }

    /** Effect 3 is washed, 200 of steam have been used; thicknesses and scales in THICKNESS and SCALE. */
    private static EffectTrain sixInUse() {
        EffectTrain train = six();
        train.tick(1);
        train.wash(3, 9);
        train.tick(1);
        return train;
    }

    private static final int[] SCALE = {0, 1, 2, 0, 4, 5};

    private static boolean isDue(int group) {
        int d2 = group / 1000 % 10;
        int d3 = group / 100 % 10;
        int xy = group % 100;
        boolean withEffect = d2 <= 5 && d3 == 0;
        switch (group / 10000) {
            case 1:
                return d2 == 0 && d3 == 0 && xy >= 1;
            case 2:
                return d2 == 0;
            case 3:
                return d2 <= 5;
            case 4:
                return withEffect && d2 != 3 && xy >= 1 && xy <= 20;
            case 5:
                return withEffect && sixInUseThickness(d2) >= xy;
            case 6:
                return withEffect && SCALE[d2] <= xy;
            case 7:
                return d2 == 0 && d3 == 0 && xy == 1;
            case 8:
                return d2 == 0 && group % 1000 >= 200;
            default:
                return false;
        }
    }

    private static final int[] THICKNESS = new int[6];

    private static int sixInUseThickness(int i) {
        if (THICKNESS[i] == 0) {
            THICKNESS[i] = 1 + sixInUse().effect(i, 8);
        }
        return THICKNESS[i] - 1;
    }

    @Sentence(in = "Promise 25", says = "`n`: number of commands, 1 to 3")
    static void runScriptTakes1To3() {
        script(NONE, 1, 10001L);
        script(NONE, 2, 10001_10001L);
        script(NONE, 3, 10001_10001_10001L);
        Due.argument("runScript 0", () -> six().runScript(0, 0L));
        Due.argument("runScript 4", () -> six().runScript(4, 10001_10001_10001L));
    }

    @Sentence(in = "Promise 25", says = "`script`: the commands, a number of at most 5 * n digits (0 or more)")
    static void runScriptTakesFrom0To5DigitsForEachCommand() {
        script(0, 1, 0L);
        script(0, 2, 0L);
        script(0, 3, 0L);
        script(0, 1, 99999L);
        script(0, 2, 99999_99999L);
        script(0, 3, 99999_99999_99999L);
        Due.argument("6 digits", () -> six().runScript(1, 1_00000L));
        Due.argument("11 digits", () -> six().runScript(2, 1_00000_00000L));
        Due.argument("16 digits", () -> six().runScript(3, 1_00000_00000_00000L));
        Due.argument("below 0", () -> six().runScript(3, -1L));
    }

    @Sentence(in = "Promise 25", says = "Throws `IllegalArgumentException` if n is out of range,"
        + " or if script is negative or has more than 5 * n digits")
    static void runScriptOutOfRange() {
        for (int n = 1; n <= 3; n++) {
            int commands = n;
            long more = n == 1 ? 1_00000L : n == 2 ? 1_00000_00000L : 1_00000_00000_00000L;
            for (long script : new long[] {more, more + 1, more + 10001, 10001 * more, -1, -10001, Long.MIN_VALUE,
                Long.MAX_VALUE, Long.MIN_VALUE + 10001}) {
                refusedArgument("runScript " + n + " " + script, Bench::busy, x -> x.runScript(commands, script));
            }
        }
        for (int n : new int[] {0, 4, -1, NONE, MIN, MAX}) {
            for (long script : new long[] {0, 10001, -1}) {
                refusedArgument("runScript " + n + " " + script, Bench::busy, x -> x.runScript(n, script));
            }
        }
        // an int would lose the highest digits
        refusedArgument("runScript 1 of 2^32 + 10001", Bench::busy, x -> x.runScript(1, (1L << 32) + 10001));
    }

    @Sentence(in = "Promise 25",
        says = "Returns the index, from 0, of the first command that fails; NONE if all succeed.")
    static void theFirstCommandThatFails() {
        script(NONE, 3, 10001_10001_10001L);
        script(0, 3, 90000_10001_10001L);
        script(1, 3, 10001_90000_10001L);
        script(2, 3, 10001_10001_90000L);
        script(0, 3, 90000_90000_90000L);
        script(1, 3, 10001_90000_90000L);
        script(1, 2, 10001_90000L);
        script(0, 1, 90000L);
    }

    // ---- simulate

    private static final BigInteger FACTOR = new BigInteger("6364136223846793005");
    private static final BigInteger SUM = new BigInteger("1442695040888963407");
    private static final BigInteger ROUND = BigInteger.ONE.shiftLeft(64);

    private static BigInteger next(BigInteger x) {
        return x.multiply(FACTOR).add(SUM).mod(ROUND);
    }

    private static int r(BigInteger x) {
        return x.shiftRight(33).intValueExact();
    }

    /** A seed whose first round computes this r, while r % 4 is 3 in the rounds after it, up to m. */
    private static long seedFor(int r, int m) {
        for (long low = 0; low < 1_000_000; low++) {
            BigInteger first = BigInteger.valueOf(r).shiftLeft(33).add(BigInteger.valueOf(low * 7919));
            BigInteger x = first;
            boolean quiet = true;
            for (int round = 2; round <= m && quiet; round++) {
                x = next(x);
                quiet = r(x) % 4 == 3;
            }
            if (quiet) {
                return first.subtract(SUM).multiply(FACTOR.modInverse(ROUND)).mod(ROUND).longValue();
            }
        }
        throw new IllegalStateException("no seed for " + r);
    }

    private static void simulated(String what, int due, EffectTrain train, int r, int m) {
        long seed = seedFor(r, m);
        Due.call(what + ": simulate " + seed + " " + m, due, () -> train.simulate(seed, m));
    }

    @Sentence(in = "Promise 26", says = {"Simulates m rounds on a copy of the state.", "Then a tick passes.",
        "Returns the vapor of all rounds."})
    static void simulateLetsATickPassInEachRound() {
        EffectTrain train = train(40, 0, 0, 0, 5, CLEAN, CLEAN);
        for (int m = 1; m <= 5; m++) {
            simulated(m + " rounds without a change", 80 * m, train, 3, m);
        }
        EffectTrain busy = busy();
        busy.simulate(1L, 99);
        busy.simulate(-1L, 99);
        Due.same("what there is after it", everything(busy()), everything(busy));
    }

    @Sentence(in = "Promise 26", says = {"`seed`: any long", "A long x starts as the seed."})
    static void simulateTakesAnySeed() {
        long[] seeds = {0, 1, -1, 2, Long.MIN_VALUE, Long.MAX_VALUE, Long.MIN_VALUE + 1, 1L << 32, 1L << 62, 4711};
        for (long seed : seeds) {
            for (int m : new int[] {1, 2, 99}) {
                Due.call("simulate " + seed + " " + m, played(six(), seed, m), () -> six().simulate(seed, m));
            }
        }
    }

    @Sentence(in = "Promise 26", says = "Each round first replaces x by x * 6364136223846793005L + 1442695040888963407L"
        + " (with long overflow), and r = (int) (x >>> 33) is computed;")
    static void simulateComputesRFrom0ToTheGreatestInt() {
        EffectTrain train = train(40, 0, 0, 0, 5, CLEAN, CLEAN);
        simulated("r 0", 80, train, 0, 1);
        simulated("the greatest r", 80, train, MAX, 1);
        simulated("the greatest r that washes", 40, train, MAX - 1, 1);
        // 2147483645 / 64 is 33554431, and that % 400 is 31
        simulated("the greatest r for the steam", 62, train, MAX - 2, 1);
    }

    /** The same by actions, with x computed without a long. */
    private static int played(EffectTrain train, long seed, int m) {
        BigInteger x = BigInteger.valueOf(seed).mod(ROUND);
        int vapor = 0;
        for (int round = 0; round < m; round++) {
            x = next(x);
            int r = r(x);
            int i = r / 4 % 6;
            if (r % 4 == 0) {
                train.setValve(i, r / 64 % 200);
            } else if (r % 4 == 1) {
                train.set(0, r / 64 % 400);
            } else if (r % 4 == 2 && train.effect(i, 7) == 0) {
                train.wash(i, 5);
            }
            vapor += train.tick(1);
        }
        return vapor;
    }

    @Sentence(in = "Promise 26", says = "let i be r / 4 % n.")
    static void simulateDrawsAnEffect() {
        // the effect i has the power 1, 2, 4, 8, 16 or 32, so the vapor tells which one is washed
        String[] effects = new String[6];
        int[] scales = {90, 40, 15, 2, 8, 15};
        int[] areas = {1, 1, 1, 1, 3, 8};
        for (int i = 0; i < 6; i++) {
            effects[i] = effect(areas[i], 4000, 0, 0, 0, scales[i]);
        }
        for (int n = 2; n <= 6; n++) {
            String[] first = java.util.Arrays.copyOfRange(effects, 6 - n, 6);
            // the steam passes what is washed, so each one gets heat by the one before it alone
            EffectTrain train = train(999, 0, 0, 0, 5, first);
            for (int drawn = 0; drawn <= 2 * n; drawn++) {
                int r = 4 * drawn + 2;
                EffectTrain washed = train(999, 0, 0, 0, 5, first);
                washed.wash(drawn % n, 5);
                simulated("i " + drawn + " of " + n, washed.tick(1), train, r, 1);
            }
        }
    }

    @Sentence(in = "Promise 26", says = "If r % 4 is 0, the valve of effect i becomes r / 64 % 200;")
    static void simulateSetsAValve() {
        // 90 a tick from the first one; in the second tick as much from the other one as has flowed
        EffectTrain train = train(90, 0, 0, 0, 5, effect(9, 4000, 0, 45, 0, 0), DRY);
        simulated("no change", 180 + 45, train, 3, 2);
        int[][] drawnAndFlow = {{0, 0}, {1, 1}, {89, 89}, {199, 90}, {200, 0}, {201, 1}, {399, 90}, {400, 0},
            {MAX / 64, 31}};
        for (int[] c : drawnAndFlow) {
            // the effect 0: r / 4 is even
            simulated("r / 64 is " + c[0], 180 + c[1], train, 64 * c[0], 2);
            simulated("r / 64 is " + c[0] + ", the other valve", 180 + 45, train, 64 * c[0] + 4, 2);
        }
    }

    @Sentence(in = "Promise 26", says = "if it is 1, the steam becomes r / 64 % 400;")
    static void simulateSetsTheSteam() {
        EffectTrain train = train(40, 0, 0, 0, 5, CLEAN, CLEAN);
        int[][] drawnAndSteam = {{0, 0}, {1, 1}, {89, 89}, {90, 90}, {399, 90}, {400, 0}, {401, 1}, {799, 90},
            {800, 0}};
        for (int[] c : drawnAndSteam) {
            simulated("r / 64 is " + c[0], 2 * c[1], train, 64 * c[0] + 1, 1);
            simulated("r / 64 is " + c[0] + ", two rounds", 4 * c[1], train, 64 * c[0] + 1, 2);
        }
    }

    @Sentence(in = "Promise 26", says = "if it is 2, effect i begins to be washed for 5 ticks, if it works.")
    static void simulateWashesOneThatWorksFor5Ticks() {
        EffectTrain train = train(40, 0, 0, 0, 5, CLEAN, CLEAN);
        for (int m = 1; m <= 6; m++) {
            simulated("a wash in " + m + " rounds", 40 * m + 40 * Math.max(0, m - 5), train, 2, m);
        }
        int[] ticksLeft = {1, 2, 4, 5, 6};
        for (int left : ticksLeft) {
            EffectTrain washed = train(40, 0, 0, 0, 5, CLEAN, CLEAN);
            washed.wash(0, left);
            for (int m = 1; m <= 6; m++) {
                simulated(left + " ticks left, " + m + " rounds", 40 * m + 40 * Math.max(0, m - left), washed, 2, m);
            }
        }
    }

    @Sentence(in = "Promise 26", says = "`m`: number of rounds, 1 to 99")
    static void simulateTakes1To99() {
        for (int m : new int[] {1, 2, 98, 99}) {
            Due.call(m + " rounds", played(six(), 5, m), () -> six().simulate(5, m));
        }
    }

    @Sentence(in = "Promise 26", says = "Throws `IllegalArgumentException` if m is out of range")
    static void simulateOfRoundsOutOfRange() {
        for (int m : new int[] {0, 100, -1, NONE, MIN, MAX}) {
            refusedArgument("simulate " + m, Bench::busy, x -> x.simulate(5L, m));
        }
    }
}
