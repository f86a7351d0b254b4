import java.util.Random;

/** Runs of chosen calls, 512 each, on LockTable and on Model; all answers must be alike. */
public final class ModelTest {
    private static final int RUNS = 10000, CALLS = 512;
    private static int wrong = 0;
    private static long looked = 0;

    private final int run;
    private final Random random;
    private final LockTable table = new LockTable();
    private final Model model = new Model();
    private final StringBuilder told = new StringBuilder();
    private int calls = 0;

    private ModelTest(int run) {
        this.run = run;
        this.random = new Random(run);
    }

    public static void main(String[] args) {
        int runs = args.length > 0 ? Integer.parseInt(args[0]) : RUNS;
        for (int run = 0; run < runs && wrong < 5; run++) new ModelTest(run).play();
        System.out.println("ModelTest: " + runs + " runs, " + looked + " answers, " + wrong + " wrong");
        if (wrong != 0) System.exit(1);
    }

    /** False ends the run: what is answered beyond the last call is free. */
    private boolean same(String call, long got, long want) {
        calls++;
        if (calls > CALLS) return false;
        looked++;
        if (got == want) return true;
        wrong++;
        System.out.println("run " + run + ":" + told + "\n  " + call + " answered " + got + ", due is " + want);
        return false;
    }

    private void play() {
        int things = random.nextInt(13);
        for (int k = 0; k < things; k++) {
            int whole = random.nextInt(4) == 0 ? -1 : k - 1 - random.nextInt(Math.min(k, 3) + 1);
            int bare = random.nextInt(6) == 0 ? 1 : 0;
            told.append("\n  thing(" + whole + ", " + bare + ")");
            if (!same("thing", table.thing(whole, bare), model.thing(whole, bare))) return;
        }
        int often = 1 + random.nextInt(40);
        while (calls < CALLS) {
            if (!step() || !looksShortly()) return;
            if (random.nextInt(often) == 0 && !looks()) return;
        }
    }

    private int some(int low, int high) {
        if (random.nextInt(40) > 0) return low + random.nextInt(high - low + 1);
        int[] wild = {Integer.MIN_VALUE, Integer.MAX_VALUE, low - 1, high + 1, -1, 0, -2, 1 << 30};
        return wild[random.nextInt(wild.length)];
    }

    private int owner() {
        return some(0, 5);
    }

    private int thing() {
        return some(0, Math.max(0, model.count(0) - 1));
    }

    private int mode() {
        return random.nextInt(30) == 0 ? some(0, 6) : new int[] {2, 4, 5, 2}[random.nextInt(4)];
    }

    private boolean step() {
        int o = owner();
        int t = thing();
        int m = mode();
        int a = some(0, 3);
        int b = some(0, 36);
        switch (random.nextInt(34)) {
            case 0: case 1: case 2: case 3: case 4: case 5: case 6: case 7:
                return tells("ask(" + o + ", " + t + ", " + m + ")", table.ask(o, t, m), model.ask(o, t, m));
            case 8: case 9: case 10: case 11:
                return gives();
            case 12: return tells("leaves(" + o + ")", table.leaves(o), model.leaves(o));
            case 13: return tells("forgets(" + o + ")", table.forgets(o), model.forgets(o));
            case 14: return tells("breaks()", table.breaks(), model.breaks());
            case 15: case 16: case 17: case 18:
                return tells("plan(" + o + ", " + t + ", " + m + ")", table.plan(o, t, m), model.plan(o, t, m));
            case 19:
                if (random.nextInt(4) > 0) return true;
                return tells("plan(-1)", table.plan(-1, t, m), model.plan(-1, t, m));
            case 20: return plays();
            case 21: return lots();
            case 22: return tells("weighs(" + t + ")", table.weighs(t), model.weighs(t));
            case 23:
                int n = some(1, 30);
                int k = some(0, Math.max(0, Math.min(n, 1000)));
                return tells("plunges(" + t + "," + n + "," + k + ")", table.plunges(t, n, k), model.plunges(t, n, k));
            case 24: return tells("bell(" + t + ", " + a + ")", table.bell(t, a), model.bell(t, a));
            case 25: case 26: return words();
            case 27: return spelled();
            case 28: return tells("list(" + (a - 1) + ", " + b + ")", table.list(a - 1, b), model.list(a - 1, b));
            case 29: return filled();
            case 30: return tells("does(" + a + "," + b + ")", table.does(a, b), model.does(a, b));
            case 31: return tells("into(" + t + "," + a + "," + b + ")", table.into(t, a, b), model.into(t, a, b));
            case 32: return tells("image()", table.image(), model.image());
            default: return seldom(t, a);
        }
    }

    private boolean seldom(int t, int a) {
        if (random.nextInt(3) == 0) return tells("back()", table.back(), model.back());
        int whole = random.nextBoolean() ? -1 : t;
        return tells("thing(" + whole + ", " + a + ")", table.thing(whole, a % 3), model.thing(whole, a % 3));
    }

    private boolean tells(String call, long got, long want) {
        boolean same = same(call, got, want);
        told.append("\n  " + call + " " + want);
        return same;
    }

    /** Mostly something that is held. */
    private boolean gives() {
        int o = owner();
        int t = thing();
        int m = mode();
        for (int k = 0; k < 30 && model.held(o, t, m) <= 0; k++) {
            o = owner();
            t = thing();
            m = mode();
        }
        return tells("give(" + o + ", " + t + ", " + m + ")", table.give(o, t, m), model.give(o, t, m));
    }

    private boolean plays() {
        for (int what = -1; what <= 3; what++) {
            if (!tells("plays(" + what + ")", table.plays(what), model.plays(what))) return false;
        }
        return true;
    }

    private boolean lots() {
        int n = some(1, 60);
        int z = random.nextInt();
        for (int what = -1; what <= 2; what++) {
            if (!tells("lots(" + n + ", " + z + ", " + what + ")", table.lots(n, z, what), model.lots(n, z, what))) {
                return false;
            }
        }
        return true;
    }

    private String number() {
        int n = some(0, 11) & 127;
        return random.nextInt(8) == 0 ? "0" + n % 10 : "" + n;
    }

    private String statement() {
        switch (random.nextInt(12)) {
            case 0: return "+" + (random.nextBoolean() ? "" : number());
            case 1: return "-" + (random.nextBoolean() ? "" : number());
            case 2: return "gs" + random.nextInt(6) + " " + number();
            case 3: return "g" + "suo".charAt(random.nextInt(3)) + random.nextInt(6) + " " + number();
            default: return "" + "suo".charAt(random.nextInt(3)) + random.nextInt(7) + " " + thing();
        }
    }

    private boolean words() {
        StringBuilder text = new StringBuilder(statement());
        for (int k = random.nextInt(6); k > 0; k--) text.append(';').append(statement());
        if (random.nextInt(25) == 0) while (text.length() < 125) text.append(";+");
        if (random.nextInt(4) == 0) {
            text.setCharAt(random.nextInt(text.length()), "+-gsuo 0917;x".charAt(random.nextInt(13)));
        }
        if (random.nextInt(8) == 0) text.setLength(random.nextInt(text.length()));
        for (int k = 0; k < text.length(); k++) {
            int letter = random.nextInt(500) == 0 ? some(1, 127) : text.charAt(k);
            if (!same("feed(" + letter + ")", table.feed(letter), model.feed(letter))) return false;
        }
        return tells("reads() of " + text, table.reads(), model.reads());
    }

    private boolean spelled() {
        if (!tells("spells()", table.spells(), model.spells())) return false;
        for (int k = -1; k <= model.count(5); k++) {
            if (!same("paper(" + k + ")", table.paper(k), model.paper(k))) return false;
        }
        return true;
    }

    private boolean filled() {
        int list = some(0, 2);
        for (int k = -1; k <= 36; k++) {
            int v = k % 3 == 0 ? owner() : k % 3 == 1 ? thing() : mode();
            String call = "set(" + list + ", " + k + ", " + v + ")";
            if (!tells(call, table.set(list, k, v), model.set(list, k, v))) return false;
        }
        return true;
    }

    private boolean looksShortly() {
        int t = thing();
        int o = owner();
        int k = some(-1, 6);
        switch (random.nextInt(8)) {
            case 0: return same("ring(" + k + ")", table.ring(k), model.ring(k));
            case 1: return same("count(" + k + ")", table.count(k), model.count(k));
            case 2: return same("line(" + k + ")", table.line(k), model.line(k));
            case 3: return same("waits(" + o + ")", table.waits(o), model.waits(o));
            case 4: return same("waitsFor(" + o + ")", table.waitsFor(o), model.waitsFor(o));
            case 5: return same("holders(" + t + ", " + k + ")", table.holders(t, k), model.holders(t, k));
            case 6: return same("thingOf(" + t + ", " + k + ")", table.thingOf(t, k), model.thingOf(t, k));
            default: return same("gate(" + t + ", " + k + ")", table.gate(t, k), model.gate(t, k));
        }
    }

    private boolean looks() {
        for (int k = -1; k <= 7; k++) {
            if (!same("count(" + k + ")", table.count(k), model.count(k))) return false;
            if (!same("line(" + k + ")", table.line(k), model.line(k))) return false;
            if (!same("waits(" + k + ")", table.waits(k), model.waits(k))) return false;
            if (!same("waitsFor(" + k + ")", table.waitsFor(k), model.waitsFor(k))) return false;
            if (k < 4 && !same("ring(" + k + ")", table.ring(k), model.ring(k))) return false;
        }
        for (int thing = -1; thing <= model.count(0); thing++) {
            if (!looksAt(thing)) return false;
        }
        for (int list = -1; list <= 3; list++) {
            int i = some(0, 35);
            if (!same("get(" + list + ", " + i + ")", table.get(list, i), model.get(list, i))) return false;
        }
        return true;
    }

    private boolean looksAt(int t) {
        for (int k = -1; k <= 6; k++) {
            String at = "(" + t + ", " + k + ")";
            if (!same("thingOf" + at, table.thingOf(t, k), model.thingOf(t, k))) return false;
            if (!same("holders" + at, table.holders(t, k), model.holders(t, k))) return false;
            if (k < 4 && !same("gate" + at, table.gate(t, k), model.gate(t, k))) return false;
        }
        int o = owner();
        if (!same("strongest(" + o + "," + t + ")", table.strongest(o, t), model.strongest(o, t))) return false;
        for (int m = 0; m <= 6; m++) {
            String at = "(" + o + ", " + t + ", " + m + ")";
            if (!same("held" + at, table.held(o, t, m), model.held(o, t, m))) return false;
        }
        int m = mode();
        String at = "(" + o + ", " + t + ", " + m + ")";
        return same("would" + at, table.would(o, t, m), model.would(o, t, m))
            && same("needs" + at, table.needs(o, t, m), model.needs(o, t, m));
    }
}
