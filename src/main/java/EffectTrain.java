import java.util.Arrays;

/** A train of evaporator effects with its accounts, forecasts, undo and save slots. */
public final class EffectTrain {
    public static final int NONE = -9;

    private static final int MOST_EFFECTS = 6;
    private static final int MOST_AMOUNT = 5000;
    private static final int MOST_VALVE = 999;
    private static final int MOST_BLEED = 90;
    private static final int MOST_SCALE = 99;
    private static final int MOST_WASH_TICKS = 20;
    private static final int MOST_TICKS = 99;
    private static final int MOST_SCALING_TICKS = 200;
    private static final int MOST_STEAM_TICKS = 20;
    private static final int MOST_ASKED_VAPOR = 9999;
    // No effect takes more heat than its power, and no power is above 100 * 9 / 10:
    // all steams from here on give the same vapor.
    private static final int MOST_USEFUL_STEAM = 90;
    private static final int MOST_TURNS = 3;
    private static final int TURN_TICKS = 5;
    private static final int MOST_COMMANDS = 3;
    private static final int MOST_REMEMBERED = 14;
    private static final int SLOTS = 2;
    private static final int MOST_TEXT = 120;

    // The settings of a state, in the order of set().
    private static final int STEAM = 0;
    private static final int FEED_WATER = 1;
    private static final int FEED_SOLIDS = 2;
    private static final int INTERVAL = 3;
    private static final int LENGTH = 4;
    private static final int SETTINGS = 5;

    // The counts of a state, in the order of total().
    private static final int STEAM_USED = 0;
    private static final int VAPOR = 1;
    private static final int BLED = 2;
    private static final int CONDENSED = 3;
    private static final int LOST = 4;
    private static final int WATER_FED = 5;
    private static final int SOLIDS_FED = 6;
    private static final int PRODUCT_WATER = 7;
    private static final int PRODUCT_SOLIDS = 8;
    private static final int HELD_BACK = 9;
    private static final int COUNTS = 10;

    // The kinds of numbers of a text: n and the settings stand once, ahead of all effects;
    // the other six kinds stand once for each effect.
    private static final int HEAD_NUMBERS = 1 + SETTINGS;
    private static final int EFFECT_NUMBERS = 6;
    private static final int MOST_NUMBERS = HEAD_NUMBERS + EFFECT_NUMBERS * MOST_EFFECTS;
    private static final int[] DIGITS = {1, 3, 3, 2, 2, 2, 1, 4, 4, 3, 2, 2};
    private static final int[] LEAST = {2, 0, 0, 0, 0, 1, 1, 0, 0, 0, 0, 0};
    private static final int[] GREATEST = {6, 999, 999, 99, 99, 20, 9, 4000, 1000, 999, 90, 99};

    private final char[] text = new char[MOST_TEXT];
    private int textLength = 0;
    private final int[] textNumbers = new int[MOST_NUMBERS];

    private final State now = new State();
    private final State trial = new State();
    private final State[] turnStates = new State[MOST_TURNS];

    // The remembered states are a ring: the newest one stands at the index newest.
    private final State[] remembered = new State[MOST_REMEMBERED];
    private int newest = 0;
    private int rememberedCount = 0;

    private final State[] slots = new State[SLOTS];
    private final boolean[] slotFilled = new boolean[SLOTS];

    public EffectTrain() {
    }

    // ---- text

    public int append(int c) throws IllegalArgumentException, IllegalStateException {
        checkRange(c, 0, 255);
        if (textLength >= MOST_TEXT) {
            throw new IllegalStateException("the text is full");
        }
        text[textLength] = (char) c;
        textLength++;
        return textLength;
    }

    public int clearText() {
        int previous = textLength;
        textLength = 0;
        return previous;
    }

    public int errorPosition() {
        return readText();
    }

    public int load() throws IllegalStateException {
        if (readText() != NONE) {
            throw new IllegalStateException("the text describes no train");
        }
        now.takeNumbers(textNumbers);
        rememberedCount = 0;
        for (int slot = 0; slot < SLOTS; slot++) {
            slotFilled[slot] = false;
        }
        return now.allWater() + now.allSolids();
    }

    /** Reads the whole text into textNumbers; tells the error position, or NONE. */
    private int readText() {
        if (textLength == 0 || text[0] != 'E') {
            return 0;
        }
        int position = 1;
        int numbers = HEAD_NUMBERS;
        for (int k = 0; k < numbers && k < MOST_NUMBERS; k++) {
            int kind = k < HEAD_NUMBERS ? k : HEAD_NUMBERS + (k - HEAD_NUMBERS) % EFFECT_NUMBERS;
            int error = numberError(position, kind);
            if (error != NONE) {
                return error;
            }
            textNumbers[k] = numberAt(position, DIGITS[kind]);
            position += DIGITS[kind];
            if (k == 0) {
                numbers = HEAD_NUMBERS + EFFECT_NUMBERS * textNumbers[0];
            }
        }
        return position == textLength ? NONE : position;
    }

    /** Tells the error position within the number at a position, or NONE. */
    private int numberError(int position, int kind) {
        int tail = 1;
        for (int d = 0; d < DIGITS[kind]; d++) {
            tail *= 10;
        }
        int start = 0;
        for (int d = 0; d < DIGITS[kind]; d++) {
            int at = position + d;
            if (at >= textLength) {
                return textLength;
            }
            int digit = text[at] - '0';
            tail /= 10;
            start += digit * tail;
            // The numbers that begin with these digits go from start to start + tail - 1.
            if (digit < 0 || digit > 9 || start > GREATEST[kind] || start + tail - 1 < LEAST[kind]) {
                return at;
            }
        }
        return NONE;
    }

    private int numberAt(int position, int digits) {
        int number = 0;
        for (int at = position; at < position + digits && at < textLength; at++) {
            number = 10 * number + (text[at] - '0');
        }
        return number;
    }

    // ---- what there is

    public int about(int what) throws IllegalArgumentException {
        checkRange(what, 0, 9);
        switch (what) {
            case 0:
                return now.n;
            case 6:
                return now.clock;
            case 7:
                return now.washedEffects();
            case 8:
                return now.allWater();
            case 9:
                return now.allSolids();
            default:
                return now.settings[what - 1];
        }
    }

    public int total(int what) throws IllegalArgumentException {
        checkRange(what, 0, 9);
        return now.counts[what];
    }

    public int effect(int i, int what) throws IndexOutOfBoundsException, IllegalArgumentException {
        checkEffect(i);
        checkRange(what, 0, 9);
        return now.numberOf(i, what);
    }

    public int neighbor(int i, boolean behind) throws IndexOutOfBoundsException {
        checkEffect(i);
        return behind ? now.effectBehind(i) : now.effectBefore(i);
    }

    public float economy() {
        int steam = now.counts[STEAM_USED];
        return steam > 0 ? (float) now.counts[VAPOR] / (float) steam : 0f;
    }

    public float share(int i) throws IndexOutOfBoundsException {
        checkEffect(i);
        int amount = now.amount(i);
        return amount > 0 ? (float) now.solids[i] / (float) amount : 0f;
    }

    // ---- actions

    public int tick(int m) throws IllegalArgumentException {
        checkRange(m, 1, MOST_TICKS);
        remember();
        return now.pass(m);
    }

    public int set(int what, int v) throws IllegalArgumentException {
        checkRange(what, 0, SETTINGS - 1);
        checkRange(v, LEAST[1 + what], GREATEST[1 + what]);
        remember();
        int previous = now.settings[what];
        now.settings[what] = v;
        return previous;
    }

    public int setValve(int i, int v) throws IndexOutOfBoundsException, IllegalArgumentException {
        checkEffect(i);
        checkRange(v, 0, MOST_VALVE);
        remember();
        int previous = now.valve[i];
        now.valve[i] = v;
        return previous;
    }

    public int setBleed(int i, int v) throws IndexOutOfBoundsException, IllegalArgumentException {
        checkEffect(i);
        checkRange(v, 0, MOST_BLEED);
        remember();
        int previous = now.bleed[i];
        now.bleed[i] = v;
        return previous;
    }

    public int wash(int i, int ticks)
            throws IndexOutOfBoundsException, IllegalArgumentException, IllegalStateException {
        checkEffect(i);
        checkRange(ticks, 1, MOST_WASH_TICKS);
        checkWorks(i);
        remember();
        now.left[i] = ticks;
        return now.washedEffects();
    }

    public int endWash(int i) throws IndexOutOfBoundsException, IllegalStateException {
        checkEffect(i);
        int previous = now.left[i];
        if (previous == 0) {
            throw new IllegalStateException("the effect works");
        }
        remember();
        now.left[i] = 0;
        return previous;
    }

    public int undo() throws IllegalStateException {
        if (rememberedCount == 0) {
            throw new IllegalStateException("no state is remembered");
        }
        now.copyFrom(stateAt(remembered, newest));
        newest = newest > 0 ? newest - 1 : MOST_REMEMBERED - 1;
        rememberedCount--;
        return rememberedCount;
    }

    private void remember() {
        newest = newest + 1 < MOST_REMEMBERED ? newest + 1 : 0;
        stateAt(remembered, newest).copyFrom(now);
        if (rememberedCount < MOST_REMEMBERED) {
            rememberedCount++;
        }
    }

    // ---- forecasts

    public int ahead(int i, int m, int what) throws IndexOutOfBoundsException, IllegalArgumentException {
        checkEffect(i);
        checkRange(m, 0, MOST_TICKS);
        checkRange(what, 0, 9);
        trial.copyFrom(now);
        trial.pass(m);
        return trial.numberOf(i, what);
    }

    public int growth(int m, int what) throws IllegalArgumentException {
        checkRange(m, 1, MOST_TICKS);
        checkRange(what, 0, 9);
        trial.copyFrom(now);
        trial.pass(m);
        return trial.counts[what] - now.counts[what];
    }

    public int washGain(int i, int ticks, int m)
            throws IndexOutOfBoundsException, IllegalArgumentException, IllegalStateException {
        checkEffect(i);
        checkRange(ticks, 1, MOST_WASH_TICKS);
        checkRange(m, 1, MOST_TICKS);
        checkWorks(i);
        trial.copyFrom(now);
        int without = trial.pass(m);
        trial.copyFrom(now);
        trial.left[i] = ticks;
        return trial.pass(m) - without;
    }

    public int bestTurns(int k, boolean first) throws IllegalArgumentException {
        checkRange(k, 1, MOST_TURNS);
        int best = -1;
        int bestFirst = -1;
        for (int choice = -1; choice < now.n; choice++) {
            int vapor = vaporWithChoice(now, choice, k);
            if (vapor > best) {
                best = vapor;
                bestFirst = choice;
            }
        }
        return first ? bestFirst : best;
    }

    /** The greatest vapor of some turns whose first one begins with this choice; -1 if it can't. */
    private int vaporWithChoice(State start, int choice, int turns) {
        if (choice >= 0 && start.left[choice] > 0) {
            return -1;
        }
        // One state for each depth: those of the turns ahead are still needed.
        State state = stateAt(turnStates, turns - 1);
        state.copyFrom(start);
        if (choice >= 0) {
            state.left[choice] = TURN_TICKS;
        }
        return state.pass(TURN_TICKS) + greatestVapor(state, turns - 1);
    }

    private int greatestVapor(State start, int turns) {
        int best = 0;
        if (turns > 0) {
            for (int choice = -1; choice < start.n; choice++) {
                best = Math.max(best, vaporWithChoice(start, choice, turns));
            }
        }
        return best;
    }

    public int scaledAfter(int i, int scale) throws IndexOutOfBoundsException, IllegalArgumentException {
        checkEffect(i);
        checkRange(scale, 1, MOST_SCALE);
        trial.copyFrom(now);
        for (int ticks = 0; ticks <= MOST_SCALING_TICKS; ticks++) {
            if (trial.scale[i] >= scale) {
                return ticks;
            }
            trial.pass(1);
        }
        return NONE;
    }

    public int steamFor(int vapor, int m) throws IllegalArgumentException {
        checkRange(vapor, 0, MOST_ASKED_VAPOR);
        checkRange(m, 1, MOST_STEAM_TICKS);
        // More steam can also give less vapor (the liquor thickens sooner), so each one is tried.
        for (int steam = 0; steam <= MOST_USEFUL_STEAM; steam++) {
            trial.copyFrom(now);
            trial.settings[STEAM] = steam;
            if (trial.pass(m) >= vapor) {
                return steam;
            }
        }
        return NONE;
    }

    // ---- scripts, simulations

    public int runScript(int n, long script) throws IllegalArgumentException {
        checkRange(n, 1, MOST_COMMANDS);
        if (script < 0 || withoutLastGroups(script, n) > 0) {
            throw new IllegalArgumentException("the script has another length");
        }
        trial.copyFrom(now);
        for (int k = 0; k < n; k++) {
            int group = (int) (withoutLastGroups(script, n - 1 - k) % 100000L);
            if (!runCommand(group)) {
                return k;
            }
        }
        return NONE;
    }

    private static long withoutLastGroups(long script, int groups) {
        long rest = script;
        for (int k = 0; k < groups; k++) {
            rest /= 100000L;
        }
        return rest;
    }

    /** Runs a command on the trial; tells whether it succeeds. */
    private boolean runCommand(int group) {
        int command = group / 10000;
        int operand = group % 10000;
        switch (command) {
            case 1:
                if (operand < 1 || operand > MOST_TICKS) {
                    return false;
                }
                trial.pass(operand);
                return true;
            case 2:
                if (operand > GREATEST[1 + STEAM]) {
                    return false;
                }
                trial.settings[STEAM] = operand;
                return true;
            case 3:
            case 4:
            case 5:
            case 6:
                return runEffectCommand(command, operand / 1000, operand % 1000);
            case 7:
                return operand <= 9 && trial.washedEffects() == operand;
            case 8:
                return operand <= 999 && trial.counts[STEAM_USED] <= operand;
            default:
                return false;
        }
    }

    private boolean runEffectCommand(int command, int i, int number) {
        if (i >= trial.n) {
            return false;
        }
        if (command == 3) {
            trial.valve[i] = number;
            return true;
        }
        if (number > 99) {
            return false;
        }
        if (command == 5) {
            return trial.thickness(i) >= number;
        }
        if (command == 6) {
            return trial.scale[i] <= number;
        }
        if (number < 1 || number > MOST_WASH_TICKS || trial.left[i] > 0) {
            return false;
        }
        trial.left[i] = number;
        return true;
    }

    public int simulate(long seed, int m) throws IllegalArgumentException {
        checkRange(m, 1, MOST_TICKS);
        trial.copyFrom(now);
        int vapor = 0;
        long x = seed;
        for (int round = 0; round < m; round++) {
            x = x * 6364136223846793005L + 1442695040888963407L;
            disturb((int) (x >>> 33));
            vapor += trial.pass(1);
        }
        return vapor;
    }

    private void disturb(int r) {
        if (trial.n < 1) {
            return;
        }
        int i = r / 4 % trial.n;
        int number = r / 64;
        switch (r % 4) {
            case 0:
                trial.valve[i] = number % 200;
                break;
            case 1:
                trial.settings[STEAM] = number % 400;
                break;
            case 2:
                if (trial.left[i] == 0) {
                    trial.left[i] = 5;
                }
                break;
            default:
                break;
        }
    }

    // ---- save slots

    public int save(int slot) throws IndexOutOfBoundsException {
        checkSlot(slot);
        stateAt(slots, slot).copyFrom(now);
        slotFilled[slot] = true;
        return now.clock;
    }

    public int restore(int slot) throws IndexOutOfBoundsException, IllegalStateException {
        checkSlot(slot);
        if (!slotFilled[slot]) {
            throw new IllegalStateException("nothing has been saved in the slot");
        }
        now.copyFrom(stateAt(slots, slot));
        rememberedCount = 0;
        return now.clock;
    }

    // ---- checks and states

    private static void checkRange(int number, int least, int greatest) throws IllegalArgumentException {
        if (number < least || number > greatest) {
            throw new IllegalArgumentException("an argument is out of its range");
        }
    }

    private void checkEffect(int i) throws IndexOutOfBoundsException {
        if (i < 0 || i >= now.n) {
            throw new IndexOutOfBoundsException("there is no such effect");
        }
    }

    private static void checkSlot(int slot) throws IndexOutOfBoundsException {
        if (slot < 0 || slot >= SLOTS) {
            throw new IndexOutOfBoundsException("there is no such save slot");
        }
    }

    private void checkWorks(int i) throws IllegalStateException {
        if (now.left[i] > 0) {
            throw new IllegalStateException("the effect is washed");
        }
    }

    /** The state at an index; it is made at its first use and then used again for ever. */
    private static State stateAt(State[] states, int k) {
        State state = states[k];
        if (state == null) {
            state = new State();
            states[k] = state;
        }
        return state;
    }

    /** All that actions change, and n. A new one is that of a new train. */
    private static final class State {
        private int n = 2;
        private final int[] settings = {100, 90, 10, 0, 5};
        private int clock = 0;
        private final int[] counts = new int[COUNTS];

        private final int[] area = new int[MOST_EFFECTS];
        private final int[] water = new int[MOST_EFFECTS];
        private final int[] solids = new int[MOST_EFFECTS];
        private final int[] valve = new int[MOST_EFFECTS];
        private final int[] bleed = new int[MOST_EFFECTS];
        private final int[] scale = new int[MOST_EFFECTS];
        private final int[] scaling = new int[MOST_EFFECTS];
        private final int[] left = new int[MOST_EFFECTS];

        private State() {
            Arrays.fill(area, 5);
            Arrays.fill(valve, 50);
        }

        private void copyFrom(State other) {
            n = other.n;
            clock = other.clock;
            System.arraycopy(other.settings, 0, settings, 0, SETTINGS);
            System.arraycopy(other.counts, 0, counts, 0, COUNTS);
            System.arraycopy(other.area, 0, area, 0, MOST_EFFECTS);
            System.arraycopy(other.water, 0, water, 0, MOST_EFFECTS);
            System.arraycopy(other.solids, 0, solids, 0, MOST_EFFECTS);
            System.arraycopy(other.valve, 0, valve, 0, MOST_EFFECTS);
            System.arraycopy(other.bleed, 0, bleed, 0, MOST_EFFECTS);
            System.arraycopy(other.scale, 0, scale, 0, MOST_EFFECTS);
            System.arraycopy(other.scaling, 0, scaling, 0, MOST_EFFECTS);
            System.arraycopy(other.left, 0, left, 0, MOST_EFFECTS);
        }

        /** Becomes what the numbers of a text describe. */
        private void takeNumbers(int[] numbers) {
            n = numbers[0];
            System.arraycopy(numbers, 1, settings, 0, SETTINGS);
            clock = 0;
            Arrays.fill(counts, 0);
            Arrays.fill(scaling, 0);
            Arrays.fill(left, 0);
            for (int i = 0; i < n && i < MOST_EFFECTS; i++) {
                int k = HEAD_NUMBERS + EFFECT_NUMBERS * i;
                area[i] = numbers[k];
                water[i] = numbers[k + 1];
                solids[i] = numbers[k + 2];
                valve[i] = numbers[k + 3];
                bleed[i] = numbers[k + 4];
                scale[i] = numbers[k + 5];
            }
        }

        // ---- what there is

        private int numberOf(int i, int what) {
            switch (what) {
                case 0:
                    return area[i];
                case 1:
                    return water[i];
                case 2:
                    return solids[i];
                case 3:
                    return valve[i];
                case 4:
                    return bleed[i];
                case 5:
                    return scale[i];
                case 6:
                    return scaling[i];
                case 7:
                    return left[i];
                case 8:
                    return thickness(i);
                default:
                    return power(i);
            }
        }

        private int amount(int i) {
            return water[i] + solids[i];
        }

        private int thickness(int i) {
            int amount = water[i] + solids[i];
            return amount > 0 ? 100 * solids[i] / amount : 0;
        }

        private int power(int i) {
            int resistance = 10 + scale[i];
            return resistance > 0 ? 100 * area[i] / resistance : 0;
        }

        private int allWater() {
            int sum = 0;
            for (int i = 0; i < n; i++) {
                sum += water[i];
            }
            return sum;
        }

        private int allSolids() {
            int sum = 0;
            for (int i = 0; i < n; i++) {
                sum += solids[i];
            }
            return sum;
        }

        private int washedEffects() {
            int washed = 0;
            for (int i = 0; i < n; i++) {
                if (left[i] > 0) {
                    washed++;
                }
            }
            return washed;
        }

        private int effectBehind(int i) {
            for (int j = i + 1; j < n; j++) {
                if (left[j] == 0) {
                    return j;
                }
            }
            return NONE;
        }

        private int effectBefore(int i) {
            for (int j = i - 1; j >= 0; j--) {
                if (left[j] == 0) {
                    return j;
                }
            }
            return NONE;
        }

        // ---- ticks

        /** Lets ticks pass; returns their vapor. */
        private int pass(int ticks) {
            int before = counts[VAPOR];
            for (int t = 0; t < ticks; t++) {
                beginWashInTurn();
                boilAll();
                flowOn();
                washOn();
                clock++;
            }
            return counts[VAPOR] - before;
        }

        private void beginWashInTurn() {
            int interval = settings[INTERVAL];
            if (interval == 0 || clock % interval != 0 || washedEffects() > 0) {
                return;
            }
            int most = 0;
            for (int i = 1; i < n; i++) {
                if (scale[i] > scale[most]) {
                    most = i;
                }
            }
            if (scale[most] > 0) {
                left[most] = settings[LENGTH];
            }
        }

        private void boilAll() {
            int heat = settings[STEAM];
            boolean anyWorks = false;
            for (int i = 0; i < n; i++) {
                if (left[i] == 0) {
                    anyWorks = true;
                    heat = boil(i, heat);
                }
            }
            if (anyWorks) {
                counts[STEAM_USED] += settings[STEAM];
                counts[CONDENSED] += heat;
            }
        }

        /** Boils one effect; returns the vapor that is passed on. */
        private int boil(int i, int heat) {
            int thickness = thickness(i);
            int vapor = Math.min(heat, power(i));
            vapor -= vapor * thickness / 200;
            vapor = Math.min(vapor, water[i]);
            int bled = vapor * bleed[i] / 100;
            water[i] -= vapor;
            counts[VAPOR] += vapor;
            counts[BLED] += bled;
            counts[LOST] += heat - vapor;
            int grown = scaling[i] + vapor * thickness / 10;
            scale[i] = Math.min(MOST_SCALE, scale[i] + grown / 1000);
            scaling[i] = grown % 1000;
            return vapor - bled;
        }

        // Goes from the first effect to the last one and carries out what flows into an effect
        // only after its own flow is known: so each flow sees the amounts before all flows.
        private void flowOn() {
            int comingWater = 0;
            int comingSolids = 0;
            int first = effectBehind(-1);
            if (first == NONE || MOST_AMOUNT - amount(first) < settings[FEED_WATER] + settings[FEED_SOLIDS]) {
                counts[HELD_BACK]++;
            } else {
                comingWater = settings[FEED_WATER];
                comingSolids = settings[FEED_SOLIDS];
                counts[WATER_FED] += comingWater;
                counts[SOLIDS_FED] += comingSolids;
            }
            for (int i = 0; i < n; i++) {
                if (left[i] == 0) {
                    int flow = flowFrom(i);
                    int amount = amount(i);
                    int goingSolids = amount > 0 ? solids[i] * flow / amount : 0;
                    int goingWater = flow - goingSolids;
                    water[i] += comingWater - goingWater;
                    solids[i] += comingSolids - goingSolids;
                    comingWater = goingWater;
                    comingSolids = goingSolids;
                }
            }
            counts[PRODUCT_WATER] += comingWater;
            counts[PRODUCT_SOLIDS] += comingSolids;
        }

        private int flowFrom(int i) {
            int flow = Math.min(valve[i], amount(i));
            int behind = effectBehind(i);
            return behind == NONE ? flow : Math.min(flow, MOST_AMOUNT - amount(behind));
        }

        private void washOn() {
            for (int i = 0; i < n; i++) {
                if (left[i] > 0) {
                    scale[i] = Math.max(0, scale[i] - 5);
                    left[i]--;
                }
            }
        }
    }
}
