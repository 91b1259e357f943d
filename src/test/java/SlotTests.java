/** The section EXCEPTIONS of the document, and the promises 27 (save) and 28 (restore). */
final class SlotTests extends Bench {
    private static final int[] NO_SLOTS = {-1, 2, NONE, MIN, MAX};

    private SlotTests() {
    }

    // ---- exceptions

    @Sentence(in = "EXCEPTIONS",
        says = "IndexOutOfBoundsException means that an effect does not exist, or that a save slot is not 0 or 1.")
    static void indexOutOfBounds() {
        Due.index("effect -1", () -> six().effect(-1, 0));
        Due.call("effect 0", 1, () -> six().effect(0, 0));
        Due.call("effect 5", 6, () -> six().effect(5, 0));
        Due.index("effect 6", () -> six().effect(6, 0));
        Due.index("save -1", () -> six().save(-1));
        Due.call("save 0", 0, () -> six().save(0));
        Due.call("save 1", 0, () -> six().save(1));
        Due.index("save 2", () -> six().save(2));
    }

    @Sentence(in = "EXCEPTIONS", says = "IllegalArgumentException means that another argument is out of its range.")
    static void illegalArgument() {
        Due.argument("append", () -> six().append(256));
        Due.argument("about", () -> six().about(10));
        Due.argument("total", () -> six().total(10));
        Due.argument("effect", () -> six().effect(0, 10));
        Due.argument("tick", () -> six().tick(0));
        Due.argument("set", () -> six().set(5, 0));
        Due.argument("set", () -> six().set(4, 0));
        Due.argument("setValve", () -> six().setValve(0, 1000));
        Due.argument("setBleed", () -> six().setBleed(0, 91));
        Due.argument("wash", () -> six().wash(0, 0));
        Due.argument("ahead", () -> six().ahead(0, 100, 0));
        Due.argument("growth", () -> six().growth(0, 0));
        Due.argument("washGain", () -> six().washGain(0, 1, 0));
        Due.argument("bestTurns", () -> six().bestTurns(0, true));
        Due.argument("scaledAfter", () -> six().scaledAfter(0, 0));
        Due.argument("steamFor", () -> six().steamFor(0, 0));
        Due.argument("runScript", () -> six().runScript(0, 0));
        Due.argument("simulate", () -> six().simulate(0, 0));
    }

    @Sentence(in = "EXCEPTIONS", says = "IllegalStateException means what the method says.")
    static void illegalState() {
        EffectTrain train = new EffectTrain();
        Due.state("load without a text", train::load);
        Due.state("undo of nothing", train::undo);
        Due.state("restore of nothing", () -> train.restore(0));
        Due.state("endWash of one that works", () -> train.endWash(0));
        train.wash(0, 1);
        Due.state("wash of a washed one", () -> train.wash(0, 1));
        Due.state("washGain of a washed one", () -> train.washGain(0, 1, 1));
        for (int k = 0; k < 120; k++) {
            train.append('E');
        }
        Due.state("append to a full text", () -> train.append('E'));
    }

    @Sentence(in = "EXCEPTIONS",
        says = "If several exceptions apply to a call, the one that its description names first is thrown.")
    static void theExceptionThatIsNamedFirst() {
        History fullText = () -> {
            EffectTrain train = train(BUSY);
            for (int k = 46; k < 120; k++) {
                train.append('E');
            }
            return train;
        };
        refusedArgument("append of a wrong character to a full text", fullText, x -> x.append(-1));
        refusedIndex("effect", Bench::busy, x -> x.effect(2, -1));
        refusedIndex("setValve", Bench::busy, x -> x.setValve(2, -1));
        refusedIndex("setBleed", Bench::busy, x -> x.setBleed(-1, 91));
        refusedIndex("wash", Bench::busy, x -> x.wash(2, 0));
        // the effect 1 of the busy train is washed, the effect 0 works
        refusedArgument("wash of a washed one for too long", Bench::busy, x -> x.wash(1, 21));
        refusedIndex("endWash", Bench::busy, x -> x.endWash(2));
        refusedIndex("ahead", Bench::busy, x -> x.ahead(2, -1, 10));
        refusedIndex("washGain", Bench::busy, x -> x.washGain(2, 0, 0));
        refusedArgument("washGain of a washed one for too long", Bench::busy, x -> x.washGain(1, 21, 1));
        refusedArgument("washGain of a washed one in too many ticks", Bench::busy, x -> x.washGain(1, 1, 100));
        refusedIndex("scaledAfter", Bench::busy, x -> x.scaledAfter(2, 0));
        refusedIndex("restore of no slot", EffectTrain::new, x -> x.restore(2));
    }

    @Sentence(in = "EXCEPTIONS", says = "A call that throws an exception changes nothing.")
    static void manyRefusedCallsChangeNothing() {
        EffectTrain train = busy();
        for (int k = 0; k < 3; k++) {
            Due.argument("append", () -> train.append(256));
            Due.argument("tick", () -> train.tick(100));
            Due.argument("set", () -> train.set(0, 1000));
            Due.index("setValve", () -> train.setValve(2, 1));
            Due.argument("setBleed", () -> train.setBleed(1, 91));
            Due.state("wash", () -> train.wash(1, 1));
            Due.state("endWash", () -> train.endWash(0));
            Due.state("washGain", () -> train.washGain(1, 1, 1));
            Due.argument("runScript", () -> train.runScript(1, 100000L));
            Due.index("save", () -> train.save(2));
            Due.index("restore", () -> train.restore(-1));
        }
        Due.same("what there is after them", everything(busy()), everything(train));
    }

    @Sentence(in = "EXCEPTIONS", says = "- `NONE = -9`: There is no such result.")
    static void noneIsMinus9() {
        Due.same("NONE", -9, EffectTrain.NONE);
        EffectTrain train = train(BUSY);
        Due.same("no effect before", -9, train.neighbor(0, false));
        Due.same("no error", -9, train.errorPosition());
        Due.same("never so scaled", -9, train.scaledAfter(0, 99));
        Due.same("no such steam", -9, train.steamFor(9999, 1));
        Due.same("no command fails", -9, train.runScript(1, 10001L));
    }

    // ---- save

    @Sentence(in = "Promise 27", says = {"Stores the present state in a save slot.", "Returns the clock."})
    static void saveStoresThePresentState() {
        EffectTrain train = train(BUSY);
        Due.call("save at the clock 0", 0, () -> train.save(0));
        train.tick(99);
        train.wash(1, 7);
        String then = look(train);
        Due.call("save at the clock 99", 99, () -> train.save(1));
        Due.same("what there is after save", then, look(train));
        Due.call("save is no action", 1, train::undo);
        train.tick(1);
        Due.call("save over an older one", 100, () -> train.save(0));
        Due.call("restore of the newer one", 100, () -> train.restore(0));
        Due.call("restore of the other one", 99, () -> train.restore(1));
        Due.same("what there is then", then, look(train));
    }

    @Sentence(in = "Promise 27", says = "Throws `IndexOutOfBoundsException` if there is no such save slot")
    static void saveInNoSuchSlot() {
        for (int slot : NO_SLOTS) {
            refusedIndex("save " + slot, Bench::busy, x -> x.save(slot));
            refusedIndex("save " + slot, EffectTrain::new, x -> x.save(slot));
        }
    }

    @Sentence(in = "Promise 27", says = "`slot`: 0 or 1")
    static void saveTakes0And1() {
        for (int slot = 0; slot < 2; slot++) {
            int s = slot;
            EffectTrain train = train(BUSY);
            train.tick(5);
            Due.call("save " + s, 5, () -> train.save(s));
            Due.call("restore " + s, 5, () -> train.restore(s));
            Due.state("restore of the other slot", () -> train.restore(1 - s));
        }
    }

    // ---- restore

    @Sentence(in = "Promise 28",
        says = {"Replaces the state by the one in a save slot, and forgets all remembered states.",
        "Returns the clock then."})
    static void restoreReplacesTheWholeState() {
        EffectTrain train = six();
        train.set(3, 9);
        train.wash(0, 20);
        train.tick(12);
        String saved = look(train);
        train.save(1);
        for (int what = 0; what <= 4; what++) {
            train.set(what, 7);
        }
        for (int i = 0; i < 6; i++) {
            train.setValve(i, 7);
            train.setBleed(i, 7);
        }
        train.endWash(0);
        train.tick(99);
        Due.call("restore", 12, () -> train.restore(1));
        Due.same("what there is after restore", saved, look(train));
        Due.state("undo after restore", train::undo);
        train.tick(1);
        Due.call("undo of an action after restore", 0, train::undo);
        Due.same("what there is after it", saved, look(train));
    }

    @Sentence(in = "Promise 28", says = "The save slot keeps its state.")
    static void restoreLeavesTheSlot() {
        EffectTrain train = train(BUSY);
        train.tick(3);
        train.save(0);
        String saved = look(train);
        for (int k = 0; k < 4; k++) {
            train.tick(10 + k);
            train.setValve(0, k);
            Due.call("restore " + k, 3, () -> train.restore(0));
            Due.same("what there is after restore " + k, saved, look(train));
        }
        train.save(1);
        train.tick(1);
        train.save(0);
        Due.call("a slot that was saved after restore", 3, () -> train.restore(1));
        Due.same("what there is then", saved, look(train));
    }

    @Sentence(in = "Promise 28", says = "Throws `IndexOutOfBoundsException` if there is no such save slot")
    static void restoreFromNoSuchSlot() {
        for (int slot : NO_SLOTS) {
            refusedIndex("restore " + slot, Bench::busy, x -> x.restore(slot));
            refusedIndex("restore " + slot, EffectTrain::new, x -> x.restore(slot));
        }
    }

    @Sentence(in = "Promise 28", says = "`slot`: 0 or 1")
    static void restoreTakes0And1() {
        Due.call("restore 0", 7, () -> busy().restore(0));
        Due.call("restore 1", 12, () -> busy().restore(1));
    }

    private static EffectTrain loadedAfterSaving() {
        EffectTrain train = busy();
        train.load();
        train.tick(4);
        return train;
    }

    @Sentence(in = "Promise 28",
        says = "Throws `IllegalStateException` if nothing has been saved in it, or not since the last load()")
    static void restoreOfAnEmptySlot() {
        for (int slot = 0; slot < 2; slot++) {
            int s = slot;
            refusedState("restore " + s + " on a new object", EffectTrain::new, x -> x.restore(s));
            refusedState("restore " + s + " on a loaded train", Bench::six, x -> x.restore(s));
            refusedState("restore " + s + " after load", SlotTests::loadedAfterSaving, x -> x.restore(s));
            History otherSaved = () -> {
                EffectTrain train = loadedAfterSaving();
                train.save(1 - s);
                return train;
            };
            refusedState("restore " + s + ", the other one is saved", otherSaved, x -> x.restore(s));
        }
        EffectTrain train = loadedAfterSaving();
        train.save(0);
        Due.call("restore of what was saved since load", 4, () -> train.restore(0));
        // a load that is refused empties no slot
        EffectTrain refused = busy();
        refused.append('x');
        Due.state("load", refused::load);
        Due.call("restore after a load that was refused", 7, () -> refused.restore(0));
    }
}
