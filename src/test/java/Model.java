import java.util.ArrayList;
import java.util.List;

/** The document once more, in its plainest and slowest form, to compare EffectTrain with. */
final class Model {
    static final int NONE = -9;

    static final class Eff {
        int area = 5;
        int water;
        int solids;
        int valve = 50;
        int bleed;
        int scale;
        int growth;
        int left;

        Eff copy() {
            Eff e = new Eff();
            e.area = area;
            e.water = water;
            e.solids = solids;
            e.valve = valve;
            e.bleed = bleed;
            e.scale = scale;
            e.growth = growth;
            e.left = left;
            return e;
        }

        int amount() {
            return water + solids;
        }

        int thickness() {
            return amount() == 0 ? 0 : 100 * solids / amount();
        }

        int number(int what) {
            int[] numbers = {area, water, solids, valve, bleed, scale, growth, left, thickness(),
                100 * area / (10 + scale)};
            return numbers[what];
        }
    }

    static final class State {
        List<Eff> effects = new ArrayList<>();
        int[] settings = {100, 90, 10, 0, 5};
        int clock;
        int[] counts = new int[10];

        State copy() {
            State s = new State();
            for (Eff e : effects) {
                s.effects.add(e.copy());
            }
            s.settings = settings.clone();
            s.clock = clock;
            s.counts = counts.clone();
            return s;
        }

        List<Eff> working() {
            List<Eff> working = new ArrayList<>();
            for (Eff e : effects) {
                if (e.left == 0) {
                    working.add(e);
                }
            }
            return working;
        }

        int washed() {
            return effects.size() - working().size();
        }

        int ticks(int m) {
            int vapor = 0;
            for (int t = 0; t < m; t++) {
                vapor += tick();
            }
            return vapor;
        }

        int tick() {
            turn();
            int vapor = boil();
            flow();
            for (Eff e : effects) {
                if (e.left > 0) {
                    e.scale = e.scale < 5 ? 0 : e.scale - 5;
                    e.left--;
                }
            }
            clock++;
            return vapor;
        }

        private void turn() {
            if (settings[3] == 0 || clock % settings[3] != 0 || washed() != 0) {
                return;
            }
            for (int scale = 99; scale > 0; scale--) {
                for (Eff e : effects) {
                    if (e.scale == scale) {
                        e.left = settings[4];
                        return;
                    }
                }
            }
        }

        private int boil() {
            List<Eff> working = working();
            int all = 0;
            int heat = settings[0];
            for (Eff e : working) {
                int thickness = e.thickness();
                int vapor = Math.min(heat, 100 * e.area / (10 + e.scale));
                vapor = vapor - vapor * thickness / 200;
                if (vapor > e.water) {
                    vapor = e.water;
                }
                e.water -= vapor;
                int bled = vapor * e.bleed / 100;
                counts[1] += vapor;
                counts[2] += bled;
                counts[4] += heat - vapor;
                e.growth += vapor * thickness / 10;
                while (e.growth >= 1000) {
                    e.growth -= 1000;
                    if (e.scale < 99) {
                        e.scale++;
                    }
                }
                heat = vapor - bled;
                all += vapor;
            }
            if (!working.isEmpty()) {
                counts[0] += settings[0];
                counts[3] += heat;
            }
            return all;
        }

        private void flow() {
            List<Eff> working = working();
            int count = working.size();
            int[] flow = new int[count];
            int[] solids = new int[count];
            for (int k = 0; k < count; k++) {
                Eff e = working.get(k);
                flow[k] = Math.min(e.valve, e.amount());
                if (k + 1 < count) {
                    flow[k] = Math.min(flow[k], 5000 - working.get(k + 1).amount());
                }
                solids[k] = e.amount() == 0 ? 0 : e.solids * flow[k] / e.amount();
            }
            boolean held = count == 0 || 5000 - working.get(0).amount() < settings[1] + settings[2];
            for (int k = 0; k < count; k++) {
                working.get(k).water -= flow[k] - solids[k];
                working.get(k).solids -= solids[k];
                if (k + 1 < count) {
                    working.get(k + 1).water += flow[k] - solids[k];
                    working.get(k + 1).solids += solids[k];
                } else {
                    counts[7] += flow[k] - solids[k];
                    counts[8] += solids[k];
                }
            }
            if (held) {
                counts[9]++;
            } else {
                working.get(0).water += settings[1];
                working.get(0).solids += settings[2];
                counts[5] += settings[1];
                counts[6] += settings[2];
            }
        }
    }

    State now = new State();
    String text = "";
    List<State> remembered = new ArrayList<>();
    State[] slots = new State[2];

    Model() {
        now.effects.add(new Eff());
        now.effects.add(new Eff());
    }

    private static void index(boolean right) {
        if (!right) {
            throw new IndexOutOfBoundsException();
        }
    }

    private static void argument(boolean right) {
        if (!right) {
            throw new IllegalArgumentException();
        }
    }

    private static void state(boolean right) {
        if (!right) {
            throw new IllegalStateException();
        }
    }

    private static boolean in(int number, int least, int greatest) {
        return least <= number && number <= greatest;
    }

    private Eff at(int i) {
        index(in(i, 0, now.effects.size() - 1));
        return now.effects.get(i);
    }

    private void remember() {
        remembered.add(now.copy());
        if (remembered.size() > 14) {
            remembered.remove(0);
        }
    }

    int append(int c) {
        argument(in(c, 0, 255));
        state(text.length() < 120);
        text += (char) c;
        return text.length();
    }

    int clearText() {
        int length = text.length();
        text = "";
        return length;
    }

    private static String[] allowed(int digits, int least, int greatest) {
        String[] numbers = new String[greatest - least + 1];
        for (int k = 0; k < numbers.length; k++) {
            numbers[k] = String.format("%0" + digits + "d", least + k);
        }
        return numbers;
    }

    private static final String[][] HEAD = {{"E"}, allowed(1, 2, 6), allowed(3, 0, 999), allowed(3, 0, 999),
        allowed(2, 0, 99), allowed(2, 0, 99), allowed(2, 1, 20)};
    private static final String[][] EFFECT = {allowed(1, 1, 9), allowed(4, 0, 4000), allowed(4, 0, 1000),
        allowed(3, 0, 999), allowed(2, 0, 90), allowed(2, 0, 99)};

    private static boolean anyBegins(String[] words, String start) {
        for (String word : words) {
            if (word.startsWith(start)) {
                return true;
            }
        }
        return false;
    }

    /** The index of the first wrong character of a word at a place, or NONE. */
    private int wordError(int place, String[] words) {
        for (int length = 1; length <= words[0].length(); length++) {
            if (place + length > text.length()) {
                return text.length();
            }
            if (!anyBegins(words, text.substring(place, place + length))) {
                return place + length - 1;
            }
        }
        return NONE;
    }

    int errorPosition() {
        List<String[]> due = new ArrayList<>(List.of(HEAD));
        int place = 0;
        for (int k = 0; k < due.size(); k++) {
            int error = wordError(place, due.get(k));
            if (error != NONE) {
                return error;
            }
            place += due.get(k)[0].length();
            if (k == 1) {
                for (int i = 0; i < text.charAt(1) - '0'; i++) {
                    due.addAll(List.of(EFFECT));
                }
            }
        }
        return place == text.length() ? NONE : place;
    }

    private int part(int from, int to) {
        return Integer.parseInt(text.substring(from, to));
    }

    int load() {
        state(errorPosition() == NONE);
        now = new State();
        now.settings = new int[] {part(2, 5), part(5, 8), part(8, 10), part(10, 12), part(12, 14)};
        for (int i = 0; i < part(1, 2); i++) {
            int p = 14 + 16 * i;
            Eff e = new Eff();
            e.area = part(p, p + 1);
            e.water = part(p + 1, p + 5);
            e.solids = part(p + 5, p + 9);
            e.valve = part(p + 9, p + 12);
            e.bleed = part(p + 12, p + 14);
            e.scale = part(p + 14, p + 16);
            now.effects.add(e);
        }
        remembered.clear();
        slots = new State[2];
        return about(8) + about(9);
    }

    int about(int what) {
        argument(in(what, 0, 9));
        int water = 0;
        int solids = 0;
        for (Eff e : now.effects) {
            water += e.water;
            solids += e.solids;
        }
        int[] s = now.settings;
        int[] numbers = {now.effects.size(), s[0], s[1], s[2], s[3], s[4], now.clock, now.washed(), water, solids};
        return numbers[what];
    }

    int total(int what) {
        argument(in(what, 0, 9));
        return now.counts[what];
    }

    int effect(int i, int what) {
        Eff e = at(i);
        argument(in(what, 0, 9));
        return e.number(what);
    }

    int neighbor(int i, boolean behind) {
        at(i);
        int found = NONE;
        for (int j = 0; j < now.effects.size(); j++) {
            boolean works = now.effects.get(j).left == 0;
            if (works && (behind ? j > i && found == NONE : j < i)) {
                found = j;
            }
        }
        return found;
    }

    float economy() {
        return now.counts[0] == 0 ? 0f : (float) now.counts[1] / (float) now.counts[0];
    }

    float share(int i) {
        Eff e = at(i);
        return e.amount() == 0 ? 0f : (float) e.solids / (float) e.amount();
    }

    int tick(int m) {
        argument(in(m, 1, 99));
        remember();
        return now.ticks(m);
    }

    int set(int what, int v) {
        argument(in(what, 0, 4));
        int[] greatest = {999, 999, 99, 99, 20};
        argument(in(v, what == 4 ? 1 : 0, greatest[what]));
        remember();
        int previous = now.settings[what];
        now.settings[what] = v;
        return previous;
    }

    int setValve(int i, int v) {
        Eff e = at(i);
        argument(in(v, 0, 999));
        remember();
        int previous = e.valve;
        e.valve = v;
        return previous;
    }

    int setBleed(int i, int v) {
        Eff e = at(i);
        argument(in(v, 0, 90));
        remember();
        int previous = e.bleed;
        e.bleed = v;
        return previous;
    }

    int wash(int i, int ticks) {
        Eff e = at(i);
        argument(in(ticks, 1, 20));
        state(e.left == 0);
        remember();
        e.left = ticks;
        return now.washed();
    }

    int endWash(int i) {
        Eff e = at(i);
        state(e.left > 0);
        remember();
        int previous = e.left;
        e.left = 0;
        return previous;
    }

    int undo() {
        state(!remembered.isEmpty());
        now = remembered.remove(remembered.size() - 1);
        return remembered.size();
    }

    int ahead(int i, int m, int what) {
        at(i);
        argument(in(m, 0, 99) && in(what, 0, 9));
        State s = now.copy();
        s.ticks(m);
        return s.effects.get(i).number(what);
    }

    int growth(int m, int what) {
        argument(in(m, 1, 99) && in(what, 0, 9));
        State s = now.copy();
        s.ticks(m);
        return s.counts[what] - now.counts[what];
    }

    int washGain(int i, int ticks, int m) {
        Eff e = at(i);
        argument(in(ticks, 1, 20) && in(m, 1, 99));
        state(e.left == 0);
        State with = now.copy();
        with.effects.get(i).left = ticks;
        return with.ticks(m) - now.copy().ticks(m);
    }

    /** The vapor of a way, a choice for each turn, or -1 if it can't be gone. */
    private int vaporOfWay(int[] way) {
        State s = now.copy();
        int vapor = 0;
        for (int choice : way) {
            if (choice >= 0) {
                if (s.effects.get(choice).left > 0) {
                    return -1;
                }
                s.effects.get(choice).left = 5;
            }
            vapor += s.ticks(5);
        }
        return vapor;
    }

    int bestTurns(int k, boolean first) {
        argument(in(k, 1, 3));
        int choices = now.effects.size() + 1;
        int ways = k == 1 ? choices : k == 2 ? choices * choices : choices * choices * choices;
        int best = -1;
        int bestFirst = NONE;
        for (int w = 0; w < ways; w++) {
            int[] way = new int[k];
            int rest = w;
            for (int t = 0; t < k; t++) {
                way[t] = rest % choices - 1;
                rest /= choices;
            }
            int vapor = vaporOfWay(way);
            if (vapor > best || vapor == best && way[0] < bestFirst) {
                best = vapor;
                bestFirst = way[0];
            }
        }
        return first ? bestFirst : best;
    }

    int scaledAfter(int i, int scale) {
        at(i);
        argument(in(scale, 1, 99));
        State s = now.copy();
        for (int t = 0; t <= 200; t++) {
            if (s.effects.get(i).scale >= scale) {
                return t;
            }
            s.tick();
        }
        return NONE;
    }

    int steamFor(int vapor, int m) {
        argument(in(vapor, 0, 9999) && in(m, 1, 20));
        for (int steam = 0; steam <= 999; steam++) {
            State s = now.copy();
            s.settings[0] = steam;
            if (s.ticks(m) >= vapor) {
                return steam;
            }
        }
        return NONE;
    }

    int runScript(int n, long script) {
        argument(in(n, 1, 3) && script >= 0);
        String digits = Long.toString(script);
        argument(digits.length() <= 5 * n);
        String padded = "0".repeat(5 * n - digits.length()) + digits;
        State s = now.copy();
        for (int k = 0; k < n; k++) {
            if (!command(s, padded.substring(5 * k, 5 * k + 5))) {
                return k;
            }
        }
        return NONE;
    }

    private static boolean command(State s, String group) {
        int i = group.charAt(1) - '0';
        boolean there = i < s.effects.size();
        int xy = Integer.parseInt(group.substring(3));
        int xyz = Integer.parseInt(group.substring(2));
        if (group.matches("100..") && xy >= 1) {
            s.ticks(xy);
            return true;
        }
        if (group.matches("20...")) {
            s.settings[0] = xyz;
            return true;
        }
        if (group.matches("3....") && there) {
            s.effects.get(i).valve = xyz;
            return true;
        }
        if (group.matches("4.0..") && there && in(xy, 1, 20) && s.effects.get(i).left == 0) {
            s.effects.get(i).left = xy;
            return true;
        }
        return group.matches("5.0..") && there && s.effects.get(i).thickness() >= xy
            || group.matches("6.0..") && there && s.effects.get(i).scale <= xy
            || group.matches("7000.") && s.washed() == xy
            || group.matches("80...") && s.counts[0] <= xyz;
    }

    int simulate(long seed, int m) {
        argument(in(m, 1, 99));
        State s = now.copy();
        int vapor = 0;
        long x = seed;
        for (int round = 0; round < m; round++) {
            x = x * 6364136223846793005L + 1442695040888963407L;
            int r = (int) (x >>> 33);
            Eff e = s.effects.get(r / 4 % s.effects.size());
            if (r % 4 == 0) {
                e.valve = r / 64 % 200;
            } else if (r % 4 == 1) {
                s.settings[0] = r / 64 % 400;
            } else if (r % 4 == 2 && e.left == 0) {
                e.left = 5;
            }
            vapor += s.tick();
        }
        return vapor;
    }

    int save(int slot) {
        index(in(slot, 0, 1));
        slots[slot] = now.copy();
        return now.clock;
    }

    int restore(int slot) {
        index(in(slot, 0, 1));
        state(slots[slot] != null);
        now = slots[slot].copy();
        remembered.clear();
        return now.clock;
    }
}
