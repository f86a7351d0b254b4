import java.util.ArrayList;
import java.util.Arrays;
import java.util.HashMap;
import java.util.List;
import java.util.Map;
import java.util.TreeMap;
import java.util.function.Function;

/** The document once more, slowly and in its own words, to be held against LockTable. */
final class Model {
    static final int BAD = -1, NOT = -2, FULL = -3, STATE = -5;
    static final int NOTHING = -11, OUTSIDE = -12, BEYOND = -13, BELOW = -14;
    private static final String TOGETHER = "11 12 13 14 21 22 24 31 33 41 42";

    record Thing(int whole, boolean bare) { }

    record Key(int thing, int owner, int mode) implements Comparable<Key> {
        public int compareTo(Key o) {
            return Integer.compare(thing * 100 + owner * 10 + mode, o.thing * 100 + o.owner * 10 + o.mode);
        }
    }

    record Ask(int owner, int thing, int mode) { }

    /** What an image keeps. */
    static final class World {
        final List<Thing> things = new ArrayList<>();
        final TreeMap<Key, Integer> holds = new TreeMap<>();
        final List<Ask> line = new ArrayList<>();
        final List<Ask> plan = new ArrayList<>();
        int granted = 0;

        World copy() {
            World w = new World();
            w.things.addAll(things);
            w.holds.putAll(holds);
            w.line.addAll(line);
            w.plan.addAll(plan);
            return w;
        }

        boolean good(int owner, int thing, int mode) {
            return owner >= 0 && owner <= 5 && has(thing) && (mode == 2 || mode == 4 || mode == 5);
        }

        boolean has(int thing) {
            return thing >= 0 && thing < things.size();
        }

        int thing(int whole, int bare) {
            if (whole != -1 && !has(whole) || bare != 0 && bare != 1) return BAD;
            if (things.size() == 12) return FULL;
            things.add(new Thing(whole, bare == 1));
            return things.size() - 1;
        }

        List<Integer> wholes(int thing) {
            List<Integer> all = new ArrayList<>();
            for (int t = things.get(thing).whole; t != -1; t = things.get(t).whole) all.add(0, t);
            return all;
        }

        List<Integer> parts(int thing) {
            List<Integer> all = new ArrayList<>();
            for (int t = 0; t < things.size(); t++) if (things.get(t).whole == thing) all.add(t);
            return all;
        }

        Map<Integer, Integer> takes(Ask a) {
            Map<Integer, Integer> all = new HashMap<>();
            for (int t : wholes(a.thing)) all.put(t, a.mode == 2 ? 1 : 3);
            all.put(a.thing, a.mode);
            return all;
        }

        int held(int owner, int thing, int mode) {
            return holds.getOrDefault(new Key(thing, owner, mode), 0);
        }

        boolean together(int a, int b) {
            return TOGETHER.contains("" + a + b);
        }

        boolean barredBy(Ask a, int other) {
            if (other == a.owner) return false;
            for (Map.Entry<Integer, Integer> take : takes(a).entrySet()) {
                for (int mode = 1; mode <= 5; mode++) {
                    if (held(other, take.getKey(), mode) > 0 && !together(take.getValue(), mode)) return true;
                }
            }
            return false;
        }

        boolean raise(Ask a) {
            return held(a.owner, a.thing, 2) + held(a.owner, a.thing, 4) + held(a.owner, a.thing, 5) > 0;
        }

        Ask waiting(int owner) {
            for (Ask a : line) if (a.owner == owner) return a;
            return null;
        }

        boolean behind(Ask a, int other) {
            if (raise(a)) return false;
            for (Ask b : line) {
                if (b.owner == a.owner) return false;
                if (b.owner == other && b.thing == a.thing && !together(a.mode, b.mode)) return true;
            }
            return false;
        }

        boolean waitsFor(Ask a, int other) {
            return other != a.owner && (barredBy(a, other) || behind(a, other));
        }

        boolean canBe(Ask a) {
            for (int other = 0; other < 6; other++) if (waitsFor(a, other)) return false;
            return true;
        }

        void grant(Ask a) {
            takes(a).forEach((t, mode) -> holds.merge(new Key(t, a.owner, mode), 1, Integer::sum));
            granted++;
        }

        int ask(int owner, int thing, int mode) {
            if (!good(owner, thing, mode)) return BAD;
            if (waiting(owner) != null) return STATE;
            Ask a = new Ask(owner, thing, mode);
            if (canBe(a)) {
                grant(a);
                return 1;
            }
            if (raise(a) && line.stream().anyMatch(b -> b.thing == thing && raise(b))) return NOT;
            line.add(a);
            return 0;
        }

        int serving() {
            int served = 0;
            while (true) {
                List<Ask> able = line.stream().filter(this::canBe).toList();
                if (able.isEmpty()) return served;
                Ask next = able.stream().filter(this::raise).findFirst().orElse(able.get(0));
                grant(next);
                line.remove(next);
                served++;
            }
        }

        int give(int owner, int thing, int mode) {
            if (!good(owner, thing, mode)) return BAD;
            if (held(owner, thing, mode) == 0) return STATE;
            takes(new Ask(owner, thing, mode)).forEach((t, m) ->
                holds.computeIfPresent(new Key(t, owner, m), (k, c) -> c == 1 ? null : c - 1));
            return serving();
        }

        void drop(int owner) {
            line.removeIf(a -> a.owner == owner);
            holds.keySet().removeIf(k -> k.owner == owner);
        }

        int leaves(int owner) {
            drop(owner);
            return serving();
        }

        int waitsForBits(int owner) {
            Ask a = waiting(owner);
            int bits = 0;
            for (int other = 0; a != null && other < 6; other++) if (waitsFor(a, other)) bits |= 1 << other;
            return bits;
        }

        boolean leads(int from, int to, int steps) {
            if (steps == 0) return false;
            int bits = waitsForBits(from);
            for (int other = 0; other < 6; other++) {
                if ((bits & 1 << other) != 0 && (other == to || leads(other, to, steps - 1))) return true;
            }
            return false;
        }

        int ring() {
            int bits = 0;
            for (int owner = 0; owner < 6; owner++) if (leads(owner, owner, 6)) bits |= 1 << owner;
            return bits;
        }

        int asked(int owner) {
            int sum = 0;
            for (Map.Entry<Key, Integer> e : holds.entrySet()) {
                if (e.getKey().owner == owner && "245".contains("" + e.getKey().mode)) sum += e.getValue();
            }
            return sum;
        }

        int least() {
            int ring = ring();
            int best = -1;
            for (int owner = 5; owner >= 0; owner--) {
                if ((ring & 1 << owner) != 0 && (best < 0 || asked(owner) < asked(best))) best = owner;
            }
            return best;
        }

        int counts(int thing) {
            int sum = 0;
            for (Map.Entry<Key, Integer> e : holds.entrySet()) if (e.getKey().thing == thing) sum += e.getValue();
            return sum;
        }
    }

    World world = new World();
    private World image = null;
    private int granted = 0;
    private final Map<Integer, int[]> gates = new HashMap<>();
    private String tape = "";
    private String paper = "";
    private final int[][] lists = new int[3][];

    private <T> T truly(Function<World, T> what) {
        world.granted = 0;
        T answer = what.apply(world);
        granted += world.granted;
        return answer;
    }

    private static boolean owner(int owner) {
        return owner >= 0 && owner <= 5;
    }

    int thing(int whole, int bare) {
        return world.thing(whole, bare);
    }

    int thingOf(int thing, int what) {
        if (!world.has(thing) || what < 0 || what > 5) return BAD;
        if (what == 0) return world.things.get(thing).whole;
        if (what == 1) return world.things.get(thing).bare ? 1 : 0;
        if (what == 2) return world.wholes(thing).size();
        if (what == 3) return world.parts(thing).stream().mapToInt(t -> 1 << t).sum();
        if (what == 4) return world.counts(thing);
        return (int) world.line.stream().filter(a -> a.thing == thing).count();
    }

    int ask(int owner, int thing, int mode) {
        return truly(w -> w.ask(owner, thing, mode));
    }

    int give(int owner, int thing, int mode) {
        return truly(w -> w.give(owner, thing, mode));
    }

    int leaves(int owner) {
        return owner(owner) ? truly(w -> w.leaves(owner)) : BAD;
    }

    int forgets(int owner) {
        if (!owner(owner)) return BAD;
        if (world.waiting(owner) == null) return STATE;
        world.line.removeIf(a -> a.owner == owner);
        return truly(World::serving);
    }

    int breaks() {
        int least = world.least();
        if (least < 0) return NOT;
        truly(w -> w.leaves(least));
        return least;
    }

    int held(int owner, int thing, int mode) {
        return owner(owner) && world.has(thing) && mode >= 1 && mode <= 5 ? world.held(owner, thing, mode) : BAD;
    }

    int holders(int thing, int mode) {
        if (!world.has(thing) || mode < 0 || mode > 5) return BAD;
        int bits = 0;
        for (Key k : world.holds.keySet()) if (k.thing == thing && (mode == 0 || k.mode == mode)) bits |= 1 << k.owner;
        return bits;
    }

    int waits(int owner) {
        if (!owner(owner)) return BAD;
        Ask a = world.waiting(owner);
        return a == null ? NOT : a.thing * 100 + a.mode * 10 + (world.raise(a) ? 1 : 0);
    }

    int line(int k) {
        if (k < -1) return BAD;
        if (k == -1) return world.line.size();
        return k < world.line.size() ? world.line.get(k).owner : NOT;
    }

    int waitsFor(int owner) {
        return owner(owner) ? world.waitsForBits(owner) : BAD;
    }

    int ring(int what) {
        if (what < 0 || what > 2) return BAD;
        if (what == 0) return world.ring();
        int least = world.least();
        return least < 0 ? NOT : what == 1 ? least : world.asked(least);
    }

    int count(int what) {
        int[] all = {world.things.size(), world.line.size(), world.holds.values().stream().mapToInt(c -> c).sum(),
            world.plan.size(), tape.length(), paper.length(), granted};
        return what < 0 || what > 6 ? BAD : all[what];
    }

    private int thoughtRefusal(int owner, int thing, int mode) {
        if (!world.good(owner, thing, mode)) return BAD;
        return world.waiting(owner) != null ? STATE : 0;
    }

    int would(int owner, int thing, int mode) {
        int refusal = thoughtRefusal(owner, thing, mode);
        if (refusal != 0) return refusal;
        World w = world.copy();
        Ask a = new Ask(owner, thing, mode);
        if (w.canBe(a)) return 1;
        w.line.add(a);
        return (w.ring() & 1 << owner) != 0 ? 2 : 0;
    }

    int needs(int owner, int thing, int mode) {
        int refusal = thoughtRefusal(owner, thing, mode);
        if (refusal != 0) return refusal;
        for (int size = 0; size <= 5; size++) {
            for (int bits = 0; bits < 64; bits++) {
                if (Integer.bitCount(bits) != size || (bits & 1 << owner) != 0) continue;
                World w = world.copy();
                for (int other = 0; other < 6; other++) if ((bits & 1 << other) != 0) w.drop(other);
                if (w.canBe(new Ask(owner, thing, mode))) return bits;
            }
        }
        throw new IllegalStateException("no owners are enough");
    }

    int strongest(int owner, int thing) {
        int refusal = thoughtRefusal(owner, thing, 2);
        if (refusal != 0) return refusal;
        for (int mode : new int[] {5, 4, 2}) if (world.canBe(new Ask(owner, thing, mode))) return mode;
        return NOT;
    }

    int plan(int owner, int thing, int mode) {
        if (owner == -1) {
            world.plan.clear();
            return 0;
        }
        if (!world.good(owner, thing, mode)) return BAD;
        if (world.plan.size() == 12) return FULL;
        world.plan.add(new Ask(owner, thing, mode));
        return world.plan.size();
    }

    int plays(int what) {
        if (what < 0 || what > 2) return BAD;
        World w = world.copy();
        List<List<Ask>> todo = new ArrayList<>();
        for (int owner = 0; owner < 6; owner++) {
            int o = owner;
            List<Ask> rows = new ArrayList<>(w.plan.stream().filter(a -> a.owner == o).toList());
            todo.add(rows.isEmpty() ? null : rows);
        }
        int rounds = 0;
        int broken = 0;
        while (todo.stream().anyMatch(rows -> rows != null)) {
            if (rounds == 40) {
                rounds = 41;
                break;
            }
            rounds++;
            for (int owner = 0; owner < 6; owner++) {
                List<Ask> rows = todo.get(owner);
                if (rows == null || w.waiting(owner) != null) continue;
                if (rows.isEmpty()) {
                    w.leaves(owner);
                    todo.set(owner, null);
                } else {
                    Ask a = rows.remove(0);
                    w.ask(a.owner, a.thing, a.mode);
                }
            }
            int least = w.least();
            if (least >= 0) {
                w.leaves(least);
                broken++;
            }
        }
        return what == 0 ? rounds : what == 1 ? broken : w.granted;
    }

    private int z;

    private int draw(int m) {
        z = z * 1103515245 + 12345;
        int positive = z < 0 ? z - Integer.MIN_VALUE : z;
        return positive / 65536 % m;
    }

    int lots(int n, int seed, int what) {
        if (n < 1 || n > 60 || what < 0 || what > 1) return BAD;
        if (world.things.isEmpty()) return STATE;
        World w = world.copy();
        z = seed;
        int once = 0;
        for (int i = 0; i < n; i++) {
            int owner = draw(6);
            if (w.waiting(owner) != null) continue;
            int thing = draw(w.things.size());
            int mode = new int[] {2, 4, 5}[draw(3)];
            if (w.ask(owner, thing, mode) == 1) once++;
        }
        return what == 0 ? once : w.line.size();
    }

    /** What throws its way out of all gates. */
    private static final class Thrown extends Exception {
        private static final long serialVersionUID = 1L;
    }

    interface Inside {
        void run() throws Thrown;
    }

    private int[] gateOf(int thing) {
        return gates.computeIfAbsent(thing, t -> new int[3]);
    }

    private void within(int thing, Inside what) throws Thrown {
        int[] g = gateOf(thing);
        g[0]++;
        g[2]++;
        g[1] = Math.max(g[1], g[2]);
        try {
            what.run();
        } finally {
            g[2]--;
        }
    }

    private int refusal(int thing) {
        return !world.has(thing) ? BAD : world.things.get(thing).bare ? NOTHING : 0;
    }

    private int weight;

    int weighs(int thing) {
        if (refusal(thing) != 0) return refusal(thing);
        weight = 0;
        try {
            within(thing, () -> goTo(thing, thing));
        } catch (Thrown t) {
            return NOTHING;
        }
        return weight;
    }

    private void goTo(int asked, int thing) throws Thrown {
        weight += world.counts(thing);
        for (int part : world.parts(thing)) {
            if (world.things.get(part).bare) throw new Thrown();
            within(part, () -> within(asked, () -> goTo(asked, part)));
        }
    }

    private void plunge(int thing, int in, int n, int k) throws Thrown {
        if (in == n) return;
        within(thing, () -> {
            if (in + 1 == k) throw new Thrown();
            plunge(thing, in + 1, n, k);
        });
    }

    int plunges(int thing, int n, int k) {
        if (!world.has(thing) || n < 1 || n > 30 || k < 0 || k > n) return BAD;
        if (refusal(thing) != 0) return refusal(thing);
        int before = gateOf(thing)[0];
        try {
            plunge(thing, 0, n, k);
        } catch (Thrown t) {
            return gateOf(thing)[0] - before;
        }
        return gateOf(thing)[0] - before;
    }

    int bell(int thing, int how) {
        if (!world.has(thing) || how < 0 || how > 3) return BAD;
        if (refusal(thing) != 0) return refusal(thing);
        if (how >= 2) return OUTSIDE;
        try {
            within(thing, () -> { });
        } catch (Thrown t) {
            throw new IllegalStateException(t);
        }
        return 1;
    }

    int gate(int thing, int what) {
        if (!world.has(thing) || what < 0 || what > 2) return BAD;
        return refusal(thing) != 0 ? refusal(thing) : gateOf(thing)[what];
    }

    int feed(int letter) {
        if (letter < 1 || letter > 127) return BAD;
        if (tape.length() == 120) return FULL;
        tape += (char) letter;
        return tape.length();
    }

    private static final String STATEMENT = "([+-][0-9]{0,2}|g?[suo][0-9] [0-9]{1,2})";
    private static final String WORDS = STATEMENT + "(;" + STATEMENT + ")*";

    /** Whether some words begin like this. */
    private static boolean begins(String start) {
        for (String end : new String[] {"", "+", "0", "0 0", " 0", "s0 0"}) {
            if ((start + end).matches(WORDS)) return true;
        }
        return false;
    }

    int reads() {
        String words = tape;
        tape = "";
        for (int at = 0; at < words.length(); at++) if (!begins(words.substring(0, at + 1))) return -1000 - at;
        if (!words.matches(WORDS)) return -1000 - words.length();
        World before = world.copy();
        int was = granted;
        int place = 0;
        String[] statements = words.split(";");
        for (String s : statements) {
            if (state(s) < 0) {
                world = before;
                granted = was;
                return -2000 - place;
            }
            place += s.length() + 1;
        }
        return statements.length;
    }

    private int state(String s) {
        if (s.charAt(0) == '+' || s.charAt(0) == '-') {
            return thing(s.length() == 1 ? -1 : Integer.parseInt(s.substring(1)), s.charAt(0) == '-' ? 1 : 0);
        }
        boolean giving = s.charAt(0) == 'g';
        String ask = giving ? s.substring(1) : s;
        int mode = Map.of('s', 2, 'u', 4, 'o', 5).get(ask.charAt(0));
        int owner = ask.charAt(1) - '0';
        int thing = Integer.parseInt(ask.substring(3));
        return giving ? give(owner, thing, mode) : ask(owner, thing, mode);
    }

    int spells() {
        StringBuilder all = new StringBuilder();
        world.holds.forEach((k, c) -> all.append(k.thing).append(':').append(k.owner).append(" lsmuo".charAt(k.mode))
            .append(c > 1 ? "x" + c : "").append(' '));
        paper = all.toString();
        return paper.length();
    }

    int paper(int i) {
        return i < 0 ? BAD : i < paper.length() ? paper.charAt(i) : NOT;
    }

    int list(int list, int n) {
        if (list < 0 || list > 2 || n > 36) return BAD;
        if (n < 0) return BELOW;
        lists[list] = new int[n];
        return 1;
    }

    int set(int list, int i, int v) {
        if (list < 0 || list > 2) return BAD;
        if (lists[list] == null) return NOTHING;
        if (i < 0 || i >= lists[list].length) return BEYOND;
        lists[list][i] = v;
        return 1;
    }

    long get(int list, int i) {
        if (list < 0 || list > 2 || lists[list] == null || i < 0 || i >= lists[list].length) return Long.MIN_VALUE;
        return lists[list][i];
    }

    int does(int list, int p) {
        if (list < 0 || list > 2 || p < 0) return BAD;
        if (lists[list] == null) return NOTHING;
        int[] row = p >= lists[list].length ? new int[0] : Arrays.copyOfRange(lists[list], p, lists[list].length);
        int done = 0;
        for (int k = 0; k < row.length / 3; k++) if (ask(row[3 * k], row[3 * k + 1], row[3 * k + 2]) >= 0) done++;
        return done;
    }

    int into(int thing, int list, int p) {
        if (!world.has(thing) || list < 0 || list > 2) return BAD;
        if (lists[list] == null) return NOTHING;
        if (p < 0) return BEYOND;
        int done = 0;
        for (int owner = 0; owner < 6; owner++) {
            for (int mode = 1; mode <= 5; mode++) {
                if ((long) p + done >= lists[list].length) return done;
                lists[list][p + done++] = world.held(owner, thing, mode);
            }
        }
        return done;
    }

    int image() {
        image = world.copy();
        return world.things.size();
    }

    int back() {
        if (image == null) return STATE;
        world = image.copy();
        gates.keySet().removeIf(t -> t >= world.things.size());
        return world.things.size();
    }
}
