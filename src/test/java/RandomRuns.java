import java.util.Random;

/** Long runs of calls, drawn with fixed seeds, on EffectTrain and on the model side by side. */
final class RandomRuns {
    private static final int RUNS = 1500;
    // What later calls answer is free, so each object is asked no more often than this.
    private static final int CALLS = 512;
    private static final int CALLS_OF_THE_LAST_LOOK = 146;
    private static final int CALLS_OF_A_TEXT = 115;
    private static final int CALLS_OF_A_STEP = 4;
    private static final int WHOLE_TEXT = -1;

    private final Random random;
    private final EffectTrain train = new EffectTrain();
    private final Model model = new Model();
    private int calls = 0;

    private RandomRuns(long seed) {
        random = new Random(seed);
    }

    public static void main(String[] args) {
        for (int run = 0; run < RUNS && Due.wrongSoFar() == 0; run++) {
            new RandomRuns(run).go(run);
        }
        Due.end("RandomRuns");
    }

    private void go(int run) {
        // Not drawn: the first draws of neighboring seeds are nearly the same.
        if (run % 4 > 0) {
            typeText(run + " ", WHOLE_TEXT);
        }
        while (isRoomFor(CALLS_OF_A_STEP) && Due.wrongSoFar() == 0) {
            String at = run + "/" + calls + " ";
            step(at, random.nextInt(1000));
            for (int k = 1; k < CALLS_OF_A_STEP; k++) {
                glance(at);
            }
        }
        compareAll(run + "/" + calls + " ");
        Due.same("the object of run " + run + " is asked " + calls + " times, at most " + CALLS, true, calls <= CALLS);
    }

    private boolean isRoomFor(int more) {
        return calls + more + CALLS_OF_THE_LAST_LOOK <= CALLS;
    }

    /** Everything that can be looked at without a change. */
    private void compareAll(String at) {
        for (int what = -1; what <= 10; what++) {
            int w = what;
            both(at + "about " + w, () -> train.about(w), () -> model.about(w));
            both(at + "total " + w, () -> train.total(w), () -> model.total(w));
            for (int i = -1; i <= 6; i++) {
                int e = i;
                both(at + "effect " + e + " " + w, () -> train.effect(e, w), () -> model.effect(e, w));
            }
        }
        for (int i = -1; i <= 6; i++) {
            int e = i;
            both(at + "behind " + e, () -> train.neighbor(e, true), () -> model.neighbor(e, true));
            both(at + "before " + e, () -> train.neighbor(e, false), () -> model.neighbor(e, false));
            both(at + "share " + e, () -> train.share(e), () -> model.share(e));
        }
        both(at + "economy", train::economy, model::economy);
        both(at + "errorPosition", train::errorPosition, model::errorPosition);
    }

    /** One thing that can be looked at without a change. */
    private void glance(String at) {
        int i = effect();
        int what = around(0, 9);
        switch (random.nextInt(12)) {
            case 0:
            case 1:
                both(at + "about " + what, () -> train.about(what), () -> model.about(what));
                break;
            case 2:
            case 3:
            case 4:
                both(at + "total " + what, () -> train.total(what), () -> model.total(what));
                break;
            case 5:
                boolean behind = random.nextBoolean();
                both(at + "neighbor " + i + " " + behind, () -> train.neighbor(i, behind),
                    () -> model.neighbor(i, behind));
                break;
            case 6:
                both(at + "share " + i, () -> train.share(i), () -> model.share(i));
                break;
            case 7:
                both(at + "economy", train::economy, model::economy);
                break;
            default:
                both(at + "effect " + i + " " + what, () -> train.effect(i, what), () -> model.effect(i, what));
                break;
        }
    }

    private void both(String what, Due.Call got, Due.Call due) {
        calls++;
        Due.same(what, Due.outcome(due), Due.outcome(got));
    }

    private void step(String at, int draw) {
        if (draw < 30 && isRoomFor(CALLS_OF_A_TEXT + CALLS_OF_A_STEP)) {
            typeText(at, random.nextInt(115));
        } else if (draw < 600) {
            act(at, random.nextInt(20));
        } else {
            forecast(at, random.nextInt(12));
        }
    }

    private void act(String at, int kind) {
        int i = effect();
        switch (kind) {
            case 0:
            case 1:
                int what = around(0, 4);
                int v = random.nextBoolean() ? around(0, 20) : around(0, random.nextBoolean() ? 99 : 999);
                both(at + "set " + what + " " + v, () -> train.set(what, v), () -> model.set(what, v));
                break;
            case 2:
            case 3:
                int valve = around(0, 999);
                both(at + "setValve " + valve, () -> train.setValve(i, valve), () -> model.setValve(i, valve));
                break;
            case 4:
                int bleed = around(0, 90);
                both(at + "setBleed " + bleed, () -> train.setBleed(i, bleed), () -> model.setBleed(i, bleed));
                break;
            case 5:
            case 6:
                int ticks = around(1, 20);
                both(at + "wash " + i + " " + ticks, () -> train.wash(i, ticks), () -> model.wash(i, ticks));
                break;
            case 7:
                both(at + "endWash " + i, () -> train.endWash(i), () -> model.endWash(i));
                break;
            case 8:
            case 9:
            case 10:
                both(at + "undo", train::undo, model::undo);
                break;
            case 11:
                int slot = around(0, 1);
                both(at + "save " + slot, () -> train.save(slot), () -> model.save(slot));
                break;
            case 12:
                int from = around(0, 1);
                both(at + "restore " + from, () -> train.restore(from), () -> model.restore(from));
                break;
            default:
                int m = random.nextBoolean() ? around(1, 5) : around(1, 99);
                both(at + "tick " + m, () -> train.tick(m), () -> model.tick(m));
                break;
        }
    }

    private void forecast(String at, int kind) {
        int i = effect();
        int m = around(1, 99);
        int what = around(0, 9);
        switch (kind) {
            case 0:
                int later = around(0, 99);
                both(at + "ahead " + later, () -> train.ahead(i, later, what), () -> model.ahead(i, later, what));
                break;
            case 1:
                both(at + "growth " + m, () -> train.growth(m, what), () -> model.growth(m, what));
                break;
            case 2:
            case 3:
                int ticks = around(1, 20);
                both(at + "washGain " + i + " " + ticks + " " + m, () -> train.washGain(i, ticks, m),
                    () -> model.washGain(i, ticks, m));
                break;
            case 4:
            case 5:
                int k = random.nextInt(4) > 0 ? around(1, 2) : around(1, 3);
                boolean first = random.nextBoolean();
                both(at + "bestTurns " + k + " " + first, () -> train.bestTurns(k, first),
                    () -> model.bestTurns(k, first));
                break;
            case 6:
            case 7:
                int scale = random.nextBoolean() ? around(1, 9) : around(1, 99);
                both(at + "scaledAfter " + i + " " + scale, () -> train.scaledAfter(i, scale),
                    () -> model.scaledAfter(i, scale));
                break;
            case 8:
                int vapor = random.nextInt(8) > 0 ? random.nextInt(1500) : around(0, 9999);
                int short0 = around(1, 20);
                both(at + "steamFor " + vapor + " " + short0, () -> train.steamFor(vapor, short0),
                    () -> model.steamFor(vapor, short0));
                break;
            case 9:
            case 10:
                int n = around(1, 3);
                long script = script(n);
                both(at + "runScript " + n + " " + script, () -> train.runScript(n, script),
                    () -> model.runScript(n, script));
                break;
            default:
                long seed = random.nextBoolean() ? random.nextLong() : random.nextInt(10) - 5;
                both(at + "simulate " + seed + " " + m, () -> train.simulate(seed, m),
                    () -> model.simulate(seed, m));
                break;
        }
    }

    /** A number of a range, often at its ends, sometimes beside it. */
    private int around(int least, int greatest) {
        int draw = random.nextInt(40);
        if (draw == 0) {
            int[] far = {least - 1, greatest + 1, Integer.MIN_VALUE, Integer.MAX_VALUE, -9};
            return far[random.nextInt(far.length)];
        }
        if (draw < 4) {
            return draw == 1 ? least : greatest;
        }
        return least + random.nextInt(greatest - least + 1);
    }

    private int effect() {
        return random.nextInt(8) == 0 ? around(0, 5) : random.nextInt(model.about(0));
    }

    private long script(int n) {
        if (random.nextInt(30) == 0) {
            long[] odd = {-1, Long.MIN_VALUE, Long.MAX_VALUE, 99999, 100000, 9999999999L, 10000000000L,
                999999999999999L, 1000000000000000L};
            return odd[random.nextInt(odd.length)];
        }
        long script = 0;
        for (int k = 0; k < n && k < 3; k++) {
            script = 100000 * script + command();
        }
        return script;
    }

    private int command() {
        int any = random.nextInt(1000);
        if (random.nextInt(12) == 0) {
            return random.nextInt(100000);
        }
        int i = 1000 * random.nextInt(random.nextInt(6) == 0 ? 10 : model.about(0));
        int washed = random.nextInt(5) == 0 ? random.nextInt(10) : model.about(7);
        int used = random.nextInt(5) == 0 ? any : Math.min(999, model.total(0) + random.nextInt(3) - 1);
        int[] commands = {10000 + any % 100, 20000 + any, 30000 + i + any, 40000 + i + any % 25,
            50000 + i + any % 40, 60000 + i + any % 10, 70000 + washed, 80000 + Math.max(0, used)};
        return commands[random.nextInt(commands.length)];
    }

    /** Types a text whose character at one index is wrong or missing or too much; then loads it. */
    private void typeText(String at, int spoilt) {
        StringBuilder text = new StringBuilder(text());
        if (spoilt != WHOLE_TEXT) {
            spoil(text, Math.min(spoilt, text.length()));
        }
        both(at + "clearText", train::clearText, model::clearText);
        for (int k = 0; k < text.length(); k++) {
            int c = text.charAt(k);
            both(at + "append " + c, () -> train.append(c), () -> model.append(c));
        }
        both(at + "errorPosition", train::errorPosition, model::errorPosition);
        both(at + "load", train::load, model::load);
    }

    private void spoil(StringBuilder text, int at) {
        switch (random.nextInt(3)) {
            case 0:
                text.setLength(at);
                break;
            case 1:
                text.insert(at, (char) ('0' + random.nextInt(10)));
                break;
            default:
                if (at < text.length()) {
                    char[] odd = {'E', '/', ':', 0, 255, '9', '6', '2', '1', '0'};
                    text.setCharAt(at, odd[random.nextInt(odd.length)]);
                }
                break;
        }
    }

    private String text() {
        int n = 2 + random.nextInt(5);
        int interval = random.nextInt(3) > 0 ? 0 : 1 + random.nextInt(30);
        StringBuilder text = new StringBuilder();
        text.append(String.format("E%d%03d%03d%02d%02d%02d", n, random.nextInt(random.nextBoolean() ? 120 : 1000),
            random.nextInt(random.nextBoolean() ? 120 : 1000), random.nextInt(100), interval,
            1 + random.nextInt(20)));
        for (int i = 0; i < n; i++) {
            int water = random.nextInt(5) == 0 ? 4000 : random.nextInt(random.nextBoolean() ? 300 : 4001);
            int solids = random.nextInt(5) == 0 ? 1000 : random.nextInt(random.nextBoolean() ? 300 : 1001);
            int scale = random.nextInt(4) == 0 ? 0 : random.nextInt(random.nextBoolean() ? 12 : 100);
            text.append(String.format("%d%04d%04d%03d%02d%02d", 1 + random.nextInt(9), water, solids,
                random.nextInt(random.nextBoolean() ? 120 : 1000), random.nextInt(91), scale));
        }
        return text.toString();
    }
}
