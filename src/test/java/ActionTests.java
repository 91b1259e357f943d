/** The section ACTIONS AND UNDO of the document, and the promises 12 (tick) to 18 (undo). */
final class ActionTests extends Bench {
    private static final int REMEMBERED = 14;

    private ActionTests() {
    }

    private static int undoAll(EffectTrain train) {
        int undone = 0;
        while (undone <= REMEMBERED && !Due.STATE.equals(Due.outcome(train::undo))) {
            undone++;
        }
        return undone;
    }

    // ---- the section

    private static void isTakenBack(String what, Asked action) {
        EffectTrain train = six();
        train.set(3, 9);
        train.tick(12);
        train.wash(0, 7);
        String before = look(train);
        Due.same(what + " throws", false, Due.outcome(() -> action.of(train)).toString().startsWith("throws"));
        Due.same(what + " changes something", false, before.equals(look(train)));
        Due.call("undo of " + what, 3, train::undo);
        Due.same("what there is after the undo of " + what, before, look(train));
    }

    @Sentence(in = "ACTIONS AND UNDO",
        says = {"The methods in the section \"actions\" change the state, which consists of",
        "the effects, the steam, the feeds, the interval, the length, the clock and all counts."})
    static void undoTakesTheWholeStateBack() {
        isTakenBack("tick 1", x -> x.tick(1));
        isTakenBack("tick 99", x -> x.tick(99));
        int[] settings = {777, 888, 77, 88, 17};
        for (int what = 0; what <= 4; what++) {
            int w = what;
            isTakenBack("set " + w, x -> x.set(w, settings[w]));
        }
        for (int i : new int[] {0, 1, 5}) {
            isTakenBack("setValve " + i, x -> x.setValve(i, 999));
            isTakenBack("setBleed " + i, x -> x.setBleed(i, 90));
        }
        isTakenBack("wash 5", x -> x.wash(5, 20));
        isTakenBack("endWash 0", x -> x.endWash(0));
    }

    @Sentence(in = "ACTIONS AND UNDO",
        says = {"Each call of one of them that does not throw an exception is an action,",
        "also if nothing becomes different"})
    static void callsThatChangeNothingAreActions() {
        EffectTrain train = train(BUSY);
        train.set(0, 80);
        train.set(4, 5);
        train.setValve(0, 200);
        train.setBleed(1, 10);
        Due.same("four actions", 4, undoAll(train));
        EffectTrain many = train(BUSY);
        many.set(0, 81);
        for (int k = 0; k < 14; k++) {
            many.set(0, 81);
        }
        Due.same("the first action is forgotten", REMEMBERED, undoAll(many));
        Due.same("the steam", 81, many.about(1));
    }

    @Sentence(in = "ACTIONS AND UNDO", says = "Each call of one of them that does not throw an exception is an action,")
    static void refusedCallsAreNoActions() {
        EffectTrain train = train(BUSY);
        for (int k = 0; k < 15; k++) {
            int v = k;
            train.set(0, v);
            Due.argument("set", () -> train.set(0, 1000));
            Due.argument("tick", () -> train.tick(0));
            Due.argument("setValve", () -> train.setValve(0, -1));
            Due.argument("setBleed", () -> train.setBleed(0, 91));
            Due.argument("wash", () -> train.wash(0, 21));
            Due.state("endWash", () -> train.endWash(0));
        }
        for (int k = 13; k >= 0; k--) {
            Due.call("undo", k, train::undo);
            Due.same("the steam", k, train.about(1));
        }
    }

    @Sentence(in = "ACTIONS AND UNDO", says = "(undo is none).")
    static void undoIsNoAction() {
        EffectTrain train = train(BUSY);
        train.set(0, 1);
        train.set(0, 2);
        Due.call("undo", 1, train::undo);
        Due.call("undo of the action ahead of it", 0, train::undo);
        Due.same("the steam", 80, train.about(1));
        Due.state("undo", train::undo);
    }

    @Sentence(in = "ACTIONS AND UNDO", says = {"Before each action, the state is remembered.",
        "At most 14 states are remembered;"})
    static void atMost14StatesAreRemembered() {
        for (int actions = 0; actions <= 45; actions++) {
            EffectTrain train = train(BUSY);
            for (int v = 1; v <= actions; v++) {
                train.set(1, v);
            }
            int remembered = Math.min(actions, REMEMBERED);
            for (int left = remembered - 1; left >= 0; left--) {
                Due.call("undo after " + actions + " actions", left, train::undo);
                int feed = actions - (remembered - left);
                Due.same("the feed after " + actions + " actions", feed == 0 ? 100 : feed, train.about(2));
            }
            Due.state("one more undo after " + actions + " actions", train::undo);
        }
    }

    @Sentence(in = "ACTIONS AND UNDO", says = "when one more is remembered, the oldest one is forgotten.")
    static void theOldestStateIsForgotten() {
        EffectTrain train = train(BUSY);
        train.tick(1);
        for (int k = 0; k < 13; k++) {
            train.set(0, k);
        }
        Due.same("14 actions", 14, undoAll(train));
        Due.same("the clock before all", 0, train.about(6));
        EffectTrain more = train(BUSY);
        more.tick(1);
        for (int k = 0; k < 14; k++) {
            more.set(0, k);
        }
        Due.same("15 actions", 14, undoAll(more));
        Due.same("the clock before all but the first one", 1, more.about(6));
        // the states that have been taken back make room again
        EffectTrain back = train(BUSY);
        for (int v = 1; v <= 20; v++) {
            back.set(0, v);
        }
        for (int k = 0; k < 5; k++) {
            back.undo();
        }
        for (int v = 101; v <= 106; v++) {
            back.set(0, v);
        }
        int[] due = {105, 104, 103, 102, 101, 15, 14, 13, 12, 11, 10, 9, 8, 7};
        for (int k = 0; k < due.length; k++) {
            Due.call("undo", 13 - k, back::undo);
            Due.same("the steam", due[k], back.about(1));
        }
        Due.state("undo", back::undo);
    }

    @Sentence(in = "ACTIONS AND UNDO", says = "n, the text and the save slots are not part of the state.")
    static void textAndSlotsAreNotTakenBack() {
        EffectTrain train = train(BUSY);
        train.tick(3);
        train.append('x');
        train.save(0);
        Due.call("undo", 0, train::undo);
        Due.same("n", 2, train.about(0));
        Due.same("the text", 47, train.clearText());
        Due.call("the slot", 3, () -> train.restore(0));
        Due.same("restore leaves the text", 0, train.clearText());
        train.append('y');
        train.save(1);
        train.restore(0);
        Due.same("restore leaves the other text", 1, train.clearText());
        Due.call("restore leaves the other slot", 3, () -> train.restore(1));
    }

    @Sentence(in = "ACTIONS AND UNDO", says = "undo, load and restore are not actions.")
    static void loadAndRestoreAreNoActions() {
        EffectTrain train = train(BUSY);
        Due.state("undo after load", train::undo);
        train.save(0);
        train.set(0, 5);
        train.restore(0);
        Due.state("undo after restore", train::undo);
        train.set(0, 6);
        Due.call("undo", 0, train::undo);
        train.load();
        Due.state("undo after load again", train::undo);
    }

    // ---- tick

    @Sentence(in = "Promise 12", says = "Returns the vapor of these ticks.")
    static void tickReturnsTheVaporOfTheseTicksAlone() {
        Due.call("a tick of nothing", 0, () -> new EffectTrain().tick(1));
        EffectTrain train = train(BUSY);
        Due.call("the first tick", 71, () -> train.tick(1));
        EffectTrain steps = train(BUSY);
        int vapor = 0;
        for (int k = 0; k < 99; k++) {
            vapor += steps.tick(1);
        }
        Due.call("98 ticks more", vapor - 71, () -> train.tick(98));
    }

    @Sentence(in = "Promise 12", says = "Lets ticks pass. (Together they are one action.)")
    static void ticksTogetherAreOneAction() {
        EffectTrain train = train(BUSY);
        EffectTrain steps = train(BUSY);
        for (int k = 0; k < 99; k++) {
            steps.tick(1);
        }
        train.tick(99);
        Due.same("99 ticks at once", look(steps), look(train));
        train.tick(5);
        Due.same("actions", 2, undoAll(train));
        Due.same("the clock", 0, train.about(6));
        Due.same("actions of a tick each", 14, undoAll(steps));
        Due.same("the clock of these", 85, steps.about(6));
    }

    @Sentence(in = "Promise 12", says = "`m`: number of ticks, 1 to 99")
    static void tickTakes1To99() {
        for (int m : new int[] {1, 2, 98, 99}) {
            EffectTrain train = train(BUSY);
            train.tick(m);
            Due.same("the clock after " + m, m, train.about(6));
        }
    }

    @Sentence(in = "Promise 12", says = "Throws `IllegalArgumentException` if m is out of range")
    static void tickOfANumberOutOfRange() {
        for (int m : new int[] {0, 100, -1, NONE, MIN, MAX}) {
            refusedArgument("tick " + m, Bench::busy, x -> x.tick(m));
        }
    }

    // ---- set

    @Sentence(in = "Promise 13", says = {"Changes a number of the train.", "Returns the previous number.",
        "`what`: 0: the steam; 1: the feed of water; 2: the feed of solids; 3: the interval; 4: the length"})
    static void setTakesWhatFrom0To4() {
        EffectTrain train = train(BUSY);
        int[] before = {80, 100, 20, 0, 5};
        for (int what = 0; what <= 4; what++) {
            int w = what;
            Due.call("set " + w, before[w], () -> train.set(w, 11 + w));
            Due.call("set " + w + " again", 11 + w, () -> train.set(w, 12 + w));
        }
        aboutIs("all are set", train, 2, 12, 13, 14, 15, 16, 0, 0, 1300, 200);
    }

    @Sentence(in = "Promise 13", says = "`v`: new number, in its range")
    static void setTakesEachNumberInItsRange() {
        int[] greatest = {999, 999, 99, 99, 20};
        int[] before = {80, 100, 20, 0, 5};
        for (int what = 0; what <= 4; what++) {
            int w = what;
            int least = w == 4 ? 1 : 0;
            EffectTrain train = train(BUSY);
            Due.call("set " + w + " to the least", before[w], () -> train.set(w, least));
            Due.same("the least " + w, least, train.about(1 + w));
            Due.call("set " + w + " to the greatest", least, () -> train.set(w, greatest[w]));
            Due.same("the greatest " + w, greatest[w], train.about(1 + w));
            Due.call("set " + w + " to the same", greatest[w], () -> train.set(w, greatest[w]));
            for (int other = 0; other <= 4; other++) {
                if (other != w) {
                    Due.same("set " + w + " leaves " + other, before[other], train.about(1 + other));
                }
            }
        }
    }

    @Sentence(in = "Promise 13", says = "Throws `IllegalArgumentException` if what or v is out of range")
    static void setOfWhatIsOutOfRange() {
        int[] greatest = {999, 999, 99, 99, 20};
        for (int what = 0; what <= 4; what++) {
            int w = what;
            int least = w == 4 ? 1 : 0;
            for (int v : new int[] {least - 1, greatest[w] + 1, -1, MIN, MAX}) {
                refusedArgument("set " + w + " to " + v, Bench::busy, x -> x.set(w, v));
            }
        }
        for (int what : new int[] {-1, 5, NONE, MIN, MAX}) {
            for (int v : new int[] {1, 0, -1, 1000}) {
                refusedArgument("set " + what + " to " + v, Bench::busy, x -> x.set(what, v));
            }
        }
    }

    // ---- setValve and setBleed

    @Sentence(in = "Promise 14", says = {"Changes the valve of an effect.", "Returns the previous one."})
    static void setValveReturnsThePreviousOne() {
        EffectTrain train = six();
        for (int i = 0; i < 6; i++) {
            int e = i;
            Due.call("setValve " + e, 10 + 10 * e, () -> train.setValve(e, 100 + e));
        }
        eachIs("set valves", train, 3, 100, 101, 102, 103, 104, 105);
        train.wash(5, 1);
        Due.call("setValve of a washed one", 105, () -> train.setValve(5, 999));
        Due.call("setValve to the same", 999, () -> train.setValve(5, 999));
    }

    @Sentence(in = "Promise 14", says = "`v`: new valve, 0 to 999")
    static void setValveTakes0To999() {
        for (int v : new int[] {0, 1, 998, 999}) {
            EffectTrain train = train(BUSY);
            Due.call("setValve to " + v, 50, () -> train.setValve(1, v));
            Due.same("the valve " + v, v, train.effect(1, 3));
        }
    }

    @Sentence(in = "Promise 14", says = "Throws `IllegalArgumentException` if v is out of range")
    static void setValveOutOfRange() {
        for (int v : new int[] {-1, 1000, MIN, MAX}) {
            refusedArgument("setValve to " + v, Bench::busy, x -> x.setValve(1, v));
        }
    }

    @Sentence(in = "Promise 14",
        says = {"`i`: effect", "Throws `IndexOutOfBoundsException` if there is no such effect"})
    static void setValveOfNoSuchEffect() {
        for (int i : new int[] {-1, 2, NONE, MIN, MAX}) {
            refusedIndex("setValve of " + i, Bench::busy, x -> x.setValve(i, 0));
            refusedIndex("setValve of " + i + " to 1000", Bench::busy, x -> x.setValve(i, 1000));
        }
        refusedIndex("setValve of 6 of six", Bench::six, x -> x.setValve(6, 0));
    }

    @Sentence(in = "Promise 15", says = {"Changes the bleed of an effect.", "Returns the previous one."})
    static void setBleedReturnsThePreviousOne() {
        EffectTrain train = six();
        for (int i = 0; i < 6; i++) {
            int e = i;
            Due.call("setBleed " + e, 10 * e, () -> train.setBleed(e, 80 + e));
        }
        eachIs("set bleeds", train, 4, 80, 81, 82, 83, 84, 85);
        train.wash(5, 1);
        Due.call("setBleed of a washed one", 85, () -> train.setBleed(5, 90));
        Due.call("setBleed to the same", 90, () -> train.setBleed(5, 90));
    }

    @Sentence(in = "Promise 15", says = "`v`: new bleed, 0 to 90")
    static void setBleedTakes0To90() {
        for (int v : new int[] {0, 1, 89, 90}) {
            EffectTrain train = train(BUSY);
            Due.call("setBleed to " + v, 10, () -> train.setBleed(1, v));
            Due.same("the bleed " + v, v, train.effect(1, 4));
        }
    }

    @Sentence(in = "Promise 15", says = "Throws `IllegalArgumentException` if v is out of range")
    static void setBleedOutOfRange() {
        for (int v : new int[] {-1, 91, 99, 100, MIN, MAX}) {
            refusedArgument("setBleed to " + v, Bench::busy, x -> x.setBleed(1, v));
        }
    }

    @Sentence(in = "Promise 15",
        says = {"`i`: effect", "Throws `IndexOutOfBoundsException` if there is no such effect"})
    static void setBleedOfNoSuchEffect() {
        for (int i : new int[] {-1, 2, NONE, MIN, MAX}) {
            refusedIndex("setBleed of " + i, Bench::busy, x -> x.setBleed(i, 0));
            refusedIndex("setBleed of " + i + " to 91", Bench::busy, x -> x.setBleed(i, 91));
        }
        refusedIndex("setBleed of 6 of six", Bench::six, x -> x.setBleed(6, 0));
    }

    // ---- wash

    @Sentence(in = "Promise 16", says = "Returns the number of effects that are washed then.")
    static void washReturnsHowManyAreWashedFrom1ToAll() {
        EffectTrain train = six();
        for (int washed = 1; washed <= 6; washed++) {
            int ticks = washed;
            int i = 6 - washed;
            Due.call("wash " + i, washed, () -> train.wash(i, ticks));
        }
        train.tick(3);
        Due.call("wash 5 again", 4, () -> train.wash(5, 1));
    }

    @Sentence(in = "Promise 16", says = "Begins to wash an effect. It keeps its water and solids.")
    static void aWashedEffectKeepsItsWaterAndSolids() {
        EffectTrain train = six();
        for (int i = 0; i < 6; i++) {
            train.wash(i, 20);
        }
        train.tick(20);
        eachIs("the water that is kept", train, 1, 100, 200, 300, 400, 500, 600);
        eachIs("the solids that are kept", train, 2, 10, 20, 30, 40, 50, 60);
        Due.call("wash 3 again", 1, () -> train.wash(3, 1));
    }

    @Sentence(in = "Promise 16", says = "`ticks`: 1 to 20 (the next tick is the first of them)")
    static void washTakes1To20() {
        for (int ticks : new int[] {1, 2, 19, 20}) {
            EffectTrain train = six();
            Due.call("wash for " + ticks, 1, () -> train.wash(5, ticks));
            Due.same("ticks left", ticks, train.effect(5, 7));
            train.tick(1);
            Due.same("ticks left after the first of " + ticks, ticks - 1, train.effect(5, 7));
            Due.same("the scale after the first of " + ticks, 0, train.effect(5, 5));
        }
    }

    @Sentence(in = "Promise 16", says = "Throws `IllegalArgumentException` if ticks is out of range")
    static void washForTicksOutOfRange() {
        for (int ticks : new int[] {0, 21, -1, MIN, MAX}) {
            refusedArgument("wash for " + ticks, Bench::busy, x -> x.wash(0, ticks));
            refusedArgument("wash of a washed one for " + ticks, Bench::busy, x -> x.wash(1, ticks));
        }
    }

    @Sentence(in = "Promise 16",
        says = {"`i`: effect", "Throws `IndexOutOfBoundsException` if there is no such effect"})
    static void washOfNoSuchEffect() {
        for (int i : new int[] {-1, 2, NONE, MIN, MAX}) {
            refusedIndex("wash " + i, Bench::busy, x -> x.wash(i, 1));
            refusedIndex("wash " + i + " for 21", Bench::busy, x -> x.wash(i, 21));
        }
        refusedIndex("wash 6 of six", Bench::six, x -> x.wash(6, 1));
    }

    @Sentence(in = "Promise 16", says = "Throws `IllegalStateException` if it is washed")
    static void washOfAWashedOne() {
        for (int ticks : new int[] {1, 20}) {
            refusedState("wash of a washed one for " + ticks, Bench::busy, x -> x.wash(1, ticks));
        }
        EffectTrain train = six();
        train.wash(2, 1);
        Due.state("wash in the last tick", () -> train.wash(2, 20));
        train.tick(1);
        Due.call("wash after the last tick", 1, () -> train.wash(2, 20));
        EffectTrain turn = six();
        turn.set(3, 99);
        turn.tick(1);
        Due.state("wash of one that is washed in its turn", () -> turn.wash(5, 1));
    }

    // ---- endWash

    @Sentence(in = "Promise 17", says = {"Ends the washing of an effect.", "Returns the ticks that were left."})
    static void endWashReturnsTheTicksThatWereLeft() {
        for (int ticks : new int[] {1, 2, 20}) {
            EffectTrain train = six();
            train.wash(0, ticks);
            Due.call("endWash at once", ticks, () -> train.endWash(0));
            Due.same("it works", 0, train.effect(0, 7));
            Due.same("none is washed", 0, train.about(7));
            Due.call("it can be washed again", 1, () -> train.wash(0, 20));
        }
        EffectTrain train = six();
        train.wash(5, 20);
        train.wash(4, 3);
        train.tick(19);
        Due.call("endWash ahead of the last tick", 1, () -> train.endWash(5));
        EffectTrain turn = six();
        turn.set(3, 99);
        turn.tick(1);
        Due.call("endWash of one that is washed in its turn", 2, () -> turn.endWash(5));
    }

    @Sentence(in = "Promise 17",
        says = {"`i`: effect", "Throws `IndexOutOfBoundsException` if there is no such effect"})
    static void endWashOfNoSuchEffect() {
        for (int i : new int[] {-1, 2, NONE, MIN, MAX}) {
            refusedIndex("endWash " + i, Bench::busy, x -> x.endWash(i));
        }
        refusedIndex("endWash 6 of six", Bench::six, x -> x.endWash(6));
    }

    @Sentence(in = "Promise 17", says = "Throws `IllegalStateException` if it works")
    static void endWashOfOneThatWorks() {
        refusedState("endWash of one that works", Bench::busy, x -> x.endWash(0));
        refusedState("endWash on a new object", EffectTrain::new, x -> x.endWash(1));
        EffectTrain train = six();
        train.wash(2, 1);
        train.tick(1);
        Due.state("endWash after the last tick", () -> train.endWash(2));
        train.wash(2, 1);
        train.endWash(2);
        Due.state("endWash after endWash", () -> train.endWash(2));
    }

    // ---- undo

    @Sentence(in = "Promise 18", says = {"Takes back the last action that is remembered.",
        "Returns how many states are still remembered."})
    static void undoReturnsHowManyAreStillRemembered() {
        EffectTrain train = new EffectTrain();
        for (int k = 1; k <= 3; k++) {
            train.set(0, k);
        }
        int[] steam = {2, 1, 100};
        for (int k = 0; k < 3; k++) {
            Due.call("undo", 2 - k, train::undo);
            Due.same("the steam", steam[k], train.about(1));
        }
        EffectTrain full = busy();
        Due.call("undo of 14", 13, full::undo);
        full.set(0, 1);
        Due.call("undo of 14 again", 13, full::undo);
    }

    @Sentence(in = "Promise 18", says = "Throws `IllegalStateException` if none is remembered")
    static void undoOfNothing() {
        refusedState("undo on a new object", EffectTrain::new, EffectTrain::undo);
        refusedState("undo on a loaded train", Bench::six, EffectTrain::undo);
        History undone = () -> {
            EffectTrain train = busy();
            for (int k = 0; k < 14; k++) {
                train.undo();
            }
            return train;
        };
        refusedState("undo after 14 undos", undone, EffectTrain::undo);
        History restored = () -> {
            EffectTrain train = busy();
            train.restore(1);
            return train;
        };
        refusedState("undo after restore", restored, EffectTrain::undo);
    }
}
