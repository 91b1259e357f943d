/** What the tests need to make trains, to look at them, and to see that a refused call changes nothing. */
abstract class Bench {
    static final int NONE = -9;
    static final int MIN = Integer.MIN_VALUE;
    static final int MAX = Integer.MAX_VALUE;

    interface History {
        EffectTrain make();
    }

    interface Asked {
        Object of(EffectTrain train);
    }

    // ---- texts and trains

    static String effect(int area, int water, int solids, int valve, int bleed, int scale) {
        return String.format("%d%04d%04d%03d%02d%02d", area, water, solids, valve, bleed, scale);
    }

    /** The text of a train: steam, feed of water, feed of solids, interval, length, effects. */
    static String text(int steam, int feedWater, int feedSolids, int interval, int length, String... effects) {
        return String.format("E%d%03d%03d%02d%02d%02d", effects.length, steam, feedWater, feedSolids, interval, length)
            + String.join("", effects);
    }

    static void type(EffectTrain train, String text) {
        train.clearText();
        for (int k = 0; k < text.length(); k++) {
            train.append(text.charAt(k));
        }
    }

    static EffectTrain typed(String text) {
        EffectTrain train = new EffectTrain();
        type(train, text);
        return train;
    }

    static EffectTrain train(String text) {
        EffectTrain train = typed(text);
        train.load();
        return train;
    }

    static EffectTrain train(int steam, int feedWater, int feedSolids, int interval, int length, String... effects) {
        return train(text(steam, feedWater, feedSolids, interval, length, effects));
    }

    /** Six effects, each number of each of them different, so that none can be taken for another. */
    static EffectTrain six() {
        return train(100, 50, 5, 0, 3, effect(1, 100, 10, 10, 0, 0), effect(2, 200, 20, 20, 10, 1),
            effect(3, 300, 30, 30, 20, 2), effect(4, 400, 40, 40, 30, 3), effect(5, 500, 50, 50, 40, 4),
            effect(6, 600, 60, 60, 50, 5));
    }

    static final String BUSY = text(80, 100, 20, 0, 5, effect(5, 900, 100, 200, 25, 0), effect(4, 400, 100, 50, 10, 6));
    static final String OTHER = text(70, 30, 4, 9, 6, effect(7, 1234, 567, 89, 12, 34),
        effect(8, 2345, 678, 90, 23, 45));

    /** A train with as much past as it can have: both slots, 14 states, a wash, counts, another text. */
    static EffectTrain busy() {
        EffectTrain train = train(BUSY);
        train.tick(7);
        train.setValve(0, 150);
        train.save(0);
        train.tick(5);
        train.set(1, 77);
        train.save(1);
        for (int k = 0; k < 3; k++) {
            train.set(0, 60 + k);
            train.setValve(k % 2, 40 + k);
            train.setBleed(k % 2, 30 + k);
            train.tick(3 + k);
        }
        train.set(2, 11);
        train.wash(1, 9);
        train.tick(2);
        type(train, OTHER);
        return train;
    }

    // ---- looking

    /** Everything that can be looked at without a change, in one text: 21 calls, and 13 for each effect. */
    static String look(EffectTrain train) {
        StringBuilder all = new StringBuilder();
        int n = train.about(0);
        for (int what = 0; what <= 9; what++) {
            all.append(what == 0 ? n : train.about(what)).append(' ').append(train.total(what)).append(" |");
            for (int i = 0; i < n; i++) {
                all.append(' ').append(train.effect(i, what));
            }
            all.append('\n');
        }
        for (int i = 0; i < n; i++) {
            all.append(train.neighbor(i, true)).append(' ').append(train.neighbor(i, false)).append(' ');
            all.append(train.share(i)).append(' ');
        }
        return all.append(train.economy()).toString();
    }

    /** Enough to tell two states of the same past apart: 6 calls. */
    static String glimpse(EffectTrain train) {
        return " " + train.about(6) + " " + train.about(1) + " " + train.effect(0, 3) + " " + train.effect(1, 4)
            + " " + train.effect(1, 1) + " " + train.total(1) + "\n";
    }

    /** All that an object holds, as far as calls can tell; it is used up by that. */
    static String everything(EffectTrain train) {
        StringBuilder all = new StringBuilder(look(train));
        boolean small = train.about(0) == 2;
        all.append("\nerror position ").append(train.errorPosition());
        Object undone = Due.outcome(train::undo);
        for (int k = 0; k < 15 && !Due.STATE.equals(undone); k++) {
            all.append("\nundo ").append(undone).append(glimpse(train));
            undone = Due.outcome(train::undo);
        }
        all.append("\nundo ").append(undone);
        for (int slot = 0; slot < 2; slot++) {
            int s = slot;
            all.append("\nrestore ").append(Due.outcome(() -> train.restore(s)));
            all.append(small ? look(train) : glimpse(train));
        }
        all.append("\nload ").append(Due.outcome(train::load)).append(small ? look(train) : glimpse(train));
        return all.append("\ntext ").append(train.clearText()).toString();
    }

    // ---- refused calls

    /** The call throws this, and after it the object can't be told from a twin that has not been asked. */
    static void refused(String what, String due, History history, Asked asked) {
        // A call that is not refused one beyond its range could run for hours far beyond it.
        if (Due.wrongInThisTest() > 0) {
            return;
        }
        EffectTrain train = history.make();
        Due.same(what, due, Due.outcome(() -> asked.of(train)));
        Due.same("what there is after the refused " + what, everything(history.make()), everything(train));
    }

    static void refusedArgument(String what, History history, Asked asked) {
        refused(what, Due.ARGUMENT, history, asked);
    }

    static void refusedIndex(String what, History history, Asked asked) {
        refused(what, Due.INDEX, history, asked);
    }

    static void refusedState(String what, History history, Asked asked) {
        refused(what, Due.STATE, history, asked);
    }

    // ---- comparing many numbers

    /** effect(i, 0), effect(i, 1) and so on. */
    static void effectIs(String what, EffectTrain train, int i, int... due) {
        for (int k = 0; k < due.length; k++) {
            Due.same(what + " effect(" + i + ", " + k + ")", due[k], train.effect(i, k));
        }
    }

    /** total(0), total(1) and so on. */
    static void countsAre(String what, EffectTrain train, int... due) {
        for (int k = 0; k < due.length; k++) {
            Due.same(what + " total(" + k + ")", due[k], train.total(k));
        }
    }

    /** about(0), about(1) and so on. */
    static void aboutIs(String what, EffectTrain train, int... due) {
        for (int k = 0; k < due.length; k++) {
            Due.same(what + " about(" + k + ")", due[k], train.about(k));
        }
    }

    /** One number of all effects. */
    static void eachIs(String what, EffectTrain train, int number, int... due) {
        for (int i = 0; i < due.length; i++) {
            Due.same(what + " effect(" + i + ", " + number + ")", due[i], train.effect(i, number));
        }
    }
}
