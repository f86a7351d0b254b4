/** Each promise of the document: what is ordinary, the edges that it names, and what it refuses. */
public final class PromiseTest {
    private static final int BAD = -1, NOT = -2, FULL = -3, STATE = -5;
    private static final int NOTHING = -11, OUTSIDE = -12, BEYOND = -13, BELOW = -14;
    private static final int LOOKS = 1, SHARES = 2, MEANS = 3, UPDATES = 4, OWNS = 5;
    private static final int MIN = Integer.MIN_VALUE, MAX = Integer.MAX_VALUE;

    private static int wrong = 0;
    private static int looked = 0;

    private static void due(String what, long got, long want) {
        looked++;
        if (got == want) return;
        wrong++;
        System.out.println(what + " answered " + got + ", due is " + want);
    }

    public static void main(String[] args) {
        newObject();
        things();
        thingsFull();
        thingOf();
        togetherOrNot();
        meantAbove();
        asks();
        raises();
        behind();
        gives();
        servesRaisesFirst();
        leaves();
        forgets();
        breaks();
        heldAndHolders();
        waitsAndLine();
        waitsFor();
        rings();
        counts();
        would();
        needs();
        strongest();
        plans();
        plays();
        playsLong();
        playsOthers();
        lots();
        weighs();
        plunges();
        bells();
        feeds();
        readsLetters();
        readsRefusals();
        readsNumbers();
        spells();
        lists();
        does();
        into();
        images();
        gatesBehindBack();
        System.out.println("PromiseTest: " + looked + " answers, " + wrong + " wrong");
        if (wrong != 0) System.exit(1);
    }

    /** Things: 0 with parts 1 and 2; 3 a part of 1. */
    private static LockTable tree() {
        LockTable x = new LockTable();
        x.thing(-1, 0);
        x.thing(0, 0);
        x.thing(0, 0);
        x.thing(1, 0);
        return x;
    }

    private static int reads(LockTable x, String words) {
        for (int k = 0; k < words.length(); k++) x.feed(words.charAt(k));
        return x.reads();
    }

    private static String spelled(LockTable x) {
        int n = x.spells();
        StringBuilder text = new StringBuilder();
        for (int k = 0; k < n; k++) text.append((char) x.paper(k));
        return text.toString();
    }

    private static void spelledIs(String what, LockTable x, String want) {
        String got = spelled(x);
        due(what + ": spelled \"" + got + "\" for \"" + want + "\"", got.equals(want) ? 1 : 0, 1);
    }

    // promise 1
    private static void newObject() {
        LockTable x = new LockTable();
        for (int what = 0; what <= 6; what++) due("count of a new one " + what, x.count(what), 0);
        due("back of a new one", x.back(), STATE);
        due("held of a new one", x.held(0, 0, 1), BAD);
        due("line of a new one", x.line(-1), 0);
        due("ring of a new one", x.ring(0), 0);
        due("list of a new one", x.set(0, 0, 1), NOTHING);
        due("paper of a new one", x.paper(0), NOT);
        due("plays of a new one", x.plays(0), 0);
        due("NO", LockTable.NO, Long.MIN_VALUE);
    }

    // promise 2
    private static void things() {
        LockTable x = new LockTable();
        due("whole that is not there", x.thing(0, 0), BAD);
        due("whole below -1", x.thing(-2, 0), BAD);
        due("bare 2", x.thing(-1, 2), BAD);
        due("bare -1", x.thing(-1, -1), BAD);
        due("first", x.thing(-1, 1), 0);
        due("its own whole", x.thing(1, 0), BAD);
        due("second", x.thing(0, 0), 1);
        due("far whole", x.thing(MAX, 0), BAD);
        due("count", x.count(0), 2);
    }

    private static void thingsFull() {
        LockTable x = new LockTable();
        for (int k = 0; k < 12; k++) due("thing " + k, x.thing(k - 1, 0), k);
        due("BAD ahead of FULL", x.thing(12, 0), BAD);
        due("BAD ahead of FULL, bare", x.thing(0, 2), BAD);
        due("FULL", x.thing(-1, 0), FULL);
        due("deepest wholes", x.thingOf(11, 2), 11);
        due("asks at the deepest", x.ask(0, 11, OWNS), 1);
        due("means all the way", x.count(2), 12);
        due("weighs all the way", x.weighs(0), 12);
        due("entries all the way", x.gate(0, 0), 12);
        due("deepest all the way", x.gate(0, 1), 12);
        due("entries at the end", x.gate(11, 0), 1);
        due("barred from the deepest to the uppermost", x.waitsFor(1) + x.ask(1, 0, SHARES), 0);
        due("by means", x.waitsFor(1), 1);
        x.leaves(0);
        due("shares the uppermost", x.held(1, 0, SHARES), 1);
        due("the deepest is barred by the uppermost", x.ask(0, 11, OWNS), 0);
        due("by 1", x.waitsFor(0), 2);
    }

    // promise 3
    private static void thingOf() {
        LockTable x = tree();
        x.thing(-1, 1);
        due("whole", x.thingOf(3, 0), 1);
        due("no whole", x.thingOf(4, 0), -1);
        due("bare", x.thingOf(4, 1), 1);
        due("not bare", x.thingOf(0, 1), 0);
        due("wholes", x.thingOf(3, 2), 2);
        due("no wholes", x.thingOf(0, 2), 0);
        due("parts", x.thingOf(0, 3), 6);
        due("parts of 1", x.thingOf(1, 3), 8);
        due("no parts", x.thingOf(3, 3), 0);
        x.ask(0, 3, SHARES);
        x.ask(0, 3, SHARES);
        x.ask(1, 1, SHARES);
        due("counts", x.thingOf(1, 4), 3);
        due("nobody asks", x.thingOf(1, 5), 0);
        x.ask(2, 1, OWNS);
        x.ask(3, 1, OWNS);
        due("two ask", x.thingOf(1, 5), 2);
        due("none ask for the part", x.thingOf(3, 5), 0);
        due("thing", x.thingOf(5, 0), BAD);
        due("thing below", x.thingOf(-1, 0), BAD);
        due("what", x.thingOf(0, 6), BAD);
        due("what below", x.thingOf(0, -1), BAD);
    }

    /** Two owners at one thing: who goes with whom, asked for and meant. */
    private static void togetherOrNot() {
        int[][] goes = {{SHARES, SHARES, 1}, {SHARES, UPDATES, 1}, {SHARES, OWNS, 0}, {UPDATES, SHARES, 1},
            {UPDATES, UPDATES, 0}, {UPDATES, OWNS, 0}, {OWNS, SHARES, 0}, {OWNS, UPDATES, 0}, {OWNS, OWNS, 0}};
        for (int[] g : goes) {
            LockTable x = tree();
            due("first", x.ask(0, 1, g[0]), 1);
            due(g[0] + " with " + g[1], x.ask(1, 1, g[1]), g[2]);
        }
        // below at 3: looks or means at 1 against what is held there
        int[][] below = {{SHARES, SHARES, 1}, {SHARES, UPDATES, 0}, {SHARES, OWNS, 0}, {UPDATES, SHARES, 1},
            {UPDATES, UPDATES, 0}, {UPDATES, OWNS, 0}, {OWNS, SHARES, 0}, {OWNS, UPDATES, 0}, {OWNS, OWNS, 0}};
        for (int[] g : below) {
            LockTable x = tree();
            due("at the whole", x.ask(0, 1, g[0]), 1);
            due(g[0] + " above " + g[1], x.ask(1, 3, g[1]), g[2]);
            LockTable y = tree();
            due("at the part", y.ask(1, 3, g[1]), 1);
            due(g[1] + " below " + g[0], y.ask(0, 1, g[0]), g[2]);
        }
        // means with means, looks with means
        LockTable x = tree();
        due("owns 1", x.ask(0, 1, OWNS), 1);
        due("owns 2 beside it", x.ask(1, 2, OWNS), 1);
        LockTable y = tree();
        due("shares 1", y.ask(0, 1, SHARES), 1);
        due("owns 2 beside shares", y.ask(1, 2, UPDATES), 1);
    }

    private static void meantAbove() {
        LockTable x = tree();
        x.ask(0, 3, SHARES);
        due("looks at 0", x.held(0, 0, LOOKS), 1);
        due("looks at 1", x.held(0, 1, LOOKS), 1);
        due("shares 3", x.held(0, 3, SHARES), 1);
        due("nothing at 2", x.thingOf(2, 4), 0);
        x.ask(0, 3, UPDATES);
        due("means 0", x.held(0, 0, MEANS), 1);
        due("means 1", x.held(0, 1, MEANS), 1);
        x.ask(0, 1, OWNS);
        due("means 0 again", x.held(0, 0, MEANS), 2);
        due("owns 1", x.held(0, 1, OWNS), 1);
        due("all counts", x.count(2), 8);
    }

    // promise 4
    private static void asks() {
        LockTable x = tree();
        due("granted", x.ask(0, 1, OWNS), 1);
        due("again", x.ask(0, 1, OWNS), 1);
        due("counted again", x.held(0, 1, OWNS), 2);
        due("waits", x.ask(1, 1, SHARES), 0);
        due("nothing held", x.held(1, 0, LOOKS), 0);
        due("in the line", x.ask(1, 2, SHARES), STATE);
        due("BAD ahead of STATE", x.ask(1, 2, LOOKS), BAD);
        due("BAD ahead of STATE, thing", x.ask(1, 4, SHARES), BAD);
        for (int mode : new int[] {MIN, -1, 0, LOOKS, MEANS, 6, MAX}) due("mode " + mode, x.ask(2, 1, mode), BAD);
        for (int owner : new int[] {MIN, -1, 6, MAX}) due("owner " + owner, x.ask(owner, 1, SHARES), BAD);
        for (int thing : new int[] {MIN, -1, 4, MAX}) due("thing " + thing, x.ask(2, thing, SHARES), BAD);
        due("last of the line", x.ask(5, 1, SHARES), 0);
        due("place 0", x.line(0), 1);
        due("place 1", x.line(1), 5);
        due("owner 5 held up by 0", x.waitsFor(5), 1);
    }

    private static void raises() {
        LockTable x = tree();
        x.ask(0, 1, SHARES);
        x.ask(1, 1, SHARES);
        x.ask(2, 1, SHARES);
        x.ask(2, 2, SHARES);
        due("a raise waits", x.ask(0, 1, OWNS), 0);
        due("a second raise is not", x.ask(1, 1, OWNS), NOT);
        due("it does not stand in the line", x.waits(1), NOT);
        due("a raise that can be", x.ask(1, 1, UPDATES), 1);
        due("no raise, so it waits", x.ask(3, 1, OWNS), 0);
        due("a raise at another thing waits for others", x.ask(2, 2, SHARES), 1);
        // one who is in the line without holding there is no raise
        LockTable y = tree();
        y.ask(0, 1, SHARES);
        y.ask(1, 1, OWNS);
        y.ask(2, 2, SHARES);
        due("0 raises all the same, passing who waits", y.ask(0, 1, OWNS), 1);
        // a raise is not behind: 1 waits to own, 0 shares once more
        LockTable z = tree();
        z.ask(0, 1, SHARES);
        z.ask(2, 1, SHARES);
        z.ask(1, 1, OWNS);
        due("counted again past the line", z.ask(0, 1, SHARES), 1);
        due("not a raise: behind", z.ask(3, 1, SHARES), 0);
        due("a raise waits behind none but barred", z.ask(0, 1, OWNS), 0);
        due("by 2 alone", z.waitsFor(0), 4);
        // looks and means make no raise
        LockTable v = tree();
        v.ask(0, 3, UPDATES);
        v.ask(0, 3, SHARES);
        v.ask(1, 1, SHARES);
        due("behind, as 1 is barred", v.waitsFor(1), 1);
        v.ask(0, 0, SHARES);
        v.ask(2, 2, SHARES);
        due("means and looks are no raise", v.ask(0, 1, OWNS), 0);
        due("0 waits behind 1", v.waitsFor(0), 2);
        due("0 waits without a raise", v.waits(0), 150);
    }

    private static void behind() {
        LockTable x = tree();
        x.ask(0, 1, SHARES);
        x.ask(1, 1, OWNS);
        due("shares behind owns", x.ask(2, 1, SHARES), 0);
        due("waits for 1 alone", x.waitsFor(2), 2);
        due("the part is not behind", x.ask(3, 3, SHARES), 1);
        due("the whole is not behind", x.ask(4, 0, SHARES), 1);
        // modes that go together are not behind
        LockTable y = tree();
        y.ask(0, 1, UPDATES);
        y.ask(1, 1, UPDATES);
        due("shares with updates ahead", y.ask(2, 1, SHARES), 1);
        // a raise that stands ahead counts
        LockTable z = tree();
        z.ask(0, 1, SHARES);
        z.ask(1, 1, SHARES);
        z.ask(0, 1, OWNS);
        due("behind a raise", z.ask(2, 1, SHARES), 0);
        due("waits for the raise", z.waitsFor(2), 1);
        // who stands behind it in the line is nothing to it
        due("1 who owns comes last", z.ask(3, 1, OWNS), 0);
        due("2 still waits for 0 alone", z.waitsFor(2), 1);
        due("3 for 0, 1, 2", z.waitsFor(3), 7);
    }

    // promise 5
    private static void gives() {
        LockTable x = tree();
        x.ask(0, 3, UPDATES);
        x.ask(0, 3, UPDATES);
        due("not held", x.give(0, 3, SHARES), STATE);
        due("not held by 1", x.give(1, 3, UPDATES), STATE);
        due("means is not given up", x.give(0, 0, MEANS), BAD);
        due("looks", x.give(0, 0, LOOKS), BAD);
        due("owner", x.give(6, 3, UPDATES), BAD);
        due("owner below", x.give(-1, 3, UPDATES), BAD);
        due("thing", x.give(0, 4, UPDATES), BAD);
        due("thing below", x.give(0, -1, UPDATES), BAD);
        due("mode 6", x.give(0, 3, 6), BAD);
        x.ask(1, 3, OWNS);
        due("one less", x.give(0, 3, UPDATES), 0);
        due("still held", x.held(0, 3, UPDATES), 1);
        due("means one less", x.held(0, 0, MEANS), 1);
        due("the last", x.give(0, 3, UPDATES), 1);
        due("none", x.holders(0, MEANS), 2);
        due("served", x.held(1, 3, OWNS), 1);
        due("served at the wholes", x.held(1, 1, MEANS), 1);
        due("none is left", x.give(0, 3, UPDATES), STATE);
        // one after another: the first is served, and bars the next ones
        LockTable y = tree();
        y.ask(0, 1, OWNS);
        y.ask(1, 1, SHARES);
        y.ask(2, 1, OWNS);
        y.ask(3, 1, SHARES);
        y.ask(4, 2, SHARES);
        y.ask(5, 3, SHARES);
        due("1 and 5 are served", y.give(0, 1, OWNS), 2);
        due("2 waits", y.line(0), 2);
        due("3 waits behind it", y.line(1), 3);
        due("2 are left", y.line(-1), 2);
        // one in the line may give up, and be no raise any more
        LockTable z = tree();
        z.ask(0, 1, SHARES);
        z.ask(1, 1, SHARES);
        z.ask(0, 1, OWNS);
        due("raise", z.waits(0), 151);
        due("gives up what it has", z.give(0, 1, SHARES), 0);
        due("no raise", z.waits(0), 150);
    }

    private static void servesRaisesFirst() {
        // 0 owns the whole for a while; 3 asks anew ahead of 1, who raises at the same thing
        LockTable x = tree();
        x.ask(1, 1, SHARES);
        x.ask(2, 1, SHARES);
        due("3 waits", x.ask(3, 1, OWNS), 0);
        due("1 raises and waits", x.ask(1, 1, OWNS), 0);
        due("3 stands first", x.line(0), 3);
        due("2 leaves: 1 is served", x.leaves(2), 1);
        due("1 owns", x.held(1, 1, OWNS), 1);
        due("3 waits on", x.line(0), 3);
        // without a raise the first in the line
        LockTable y = tree();
        y.ask(0, 1, OWNS);
        y.ask(2, 1, OWNS);
        y.ask(1, 1, OWNS);
        due("one is served", y.leaves(0), 1);
        due("the first", y.held(2, 1, OWNS), 1);
        // a raise behind a first that both can be: the raise goes first and bars the other
        LockTable z = tree();
        z.ask(0, 2, SHARES);
        z.ask(1, 0, SHARES);
        due("3 wants 2", z.ask(3, 2, OWNS), 0);
        due("0 raises at 2", z.ask(0, 2, OWNS), 0);
        due("both wait for 1", z.waitsFor(0), 2);
        due("3 waits for 0, too", z.waitsFor(3), 3);
        due("1 leaves", z.leaves(1), 1);
        due("0 owns 2", z.held(0, 2, OWNS), 1);
        // the raise comes first though one ahead of it could be, too
        LockTable v = new LockTable();
        v.thing(-1, 0);
        v.thing(0, 0);
        v.thing(0, 0);
        v.ask(0, 2, SHARES);
        v.ask(1, 0, SHARES);
        v.ask(3, 1, OWNS);
        v.ask(0, 2, UPDATES);
        due("two wait", v.line(-1), 2);
        due("both are served", v.leaves(1), 2);
        // ... and of two that shut each other out, the raise alone
        LockTable w = new LockTable();
        w.thing(-1, 0);
        w.thing(0, 0);
        w.ask(0, 1, SHARES);
        w.ask(1, 0, UPDATES);
        due("2 asks for the whole", w.ask(2, 0, UPDATES), 0);
        due("0 raises at the part", w.ask(0, 1, OWNS), 0);
        due("1 leaves, one is served", w.leaves(1), 1);
        due("the raise", w.held(0, 1, OWNS), 1);
        due("2 waits for it", w.waitsFor(2), 1);
    }

    // promise 6
    private static void leaves() {
        LockTable x = tree();
        x.ask(0, 1, OWNS);
        x.ask(0, 3, SHARES);
        x.ask(1, 1, SHARES);
        x.ask(2, 3, SHARES);
        due("all holds are gone, both are served", x.leaves(0), 2);
        due("nothing is held", x.holders(0, 0), 6);
        x.ask(1, 3, OWNS);
        due("1 waits", x.waits(1), 350);
        x.ask(3, 3, SHARES);
        due("1 leaves the line, too", x.leaves(1), 1);
        due("3 was behind", x.held(3, 3, SHARES), 1);
        due("not in the line", x.waits(1), NOT);
        due("nothing at 1", x.held(1, 1, SHARES), 0);
        due("one with nothing", x.leaves(5), 0);
        due("BAD", x.leaves(-1), BAD);
        due("BAD 6", x.leaves(6), BAD);
        due("BAD far", x.leaves(MAX), BAD);
    }

    // promise 7
    private static void forgets() {
        LockTable x = tree();
        x.ask(0, 1, SHARES);
        x.ask(1, 1, OWNS);
        x.ask(2, 1, SHARES);
        x.ask(3, 1, SHARES);
        due("not in it", x.forgets(0), STATE);
        due("BAD", x.forgets(6), BAD);
        due("BAD below", x.forgets(-1), BAD);
        due("1 forgets, two are served", x.forgets(1), 2);
        due("the line is empty", x.line(-1), 0);
        due("0 holds on", x.held(0, 1, SHARES), 1);
        due("again", x.forgets(1), STATE);
    }

    // promise 8
    private static void breaks() {
        LockTable x = tree();
        due("no ring", x.breaks(), NOT);
        x.ask(0, 1, OWNS);
        x.ask(1, 2, OWNS);
        x.ask(1, 2, OWNS);
        x.ask(0, 2, SHARES);
        x.ask(1, 3, SHARES);
        due("ring", x.ring(0), 3);
        due("0 has fewer", x.breaks(), 0);
        due("its holds are gone", x.held(0, 1, OWNS), 0);
        due("its ask, too", x.waits(0), NOT);
        due("1 is served", x.held(1, 3, SHARES), 1);
        due("no ring any more", x.breaks(), NOT);
        due("granted in all", x.count(6), 4);
    }

    // promises 9 and 10
    private static void heldAndHolders() {
        LockTable x = tree();
        x.ask(0, 3, SHARES);
        x.ask(2, 3, SHARES);
        x.ask(2, 3, UPDATES);
        x.ask(5, 2, SHARES);
        due("shares", x.holders(3, SHARES), 5);
        due("updates", x.holders(3, UPDATES), 4);
        due("any", x.holders(3, 0), 5);
        due("any at 0", x.holders(0, 0), 37);
        due("looks at 0", x.holders(0, LOOKS), 37);
        due("means 0", x.holders(0, MEANS), 4);
        due("owns", x.holders(0, OWNS), 0);
        due("mode below", x.holders(0, -1), BAD);
        due("mode 6", x.holders(0, 6), BAD);
        due("thing", x.holders(4, 0), BAD);
        due("thing below", x.holders(-1, 0), BAD);
        x.ask(4, 1, OWNS);
        due("4 waits to own", x.holders(1, 0), 5);
        x.leaves(0);
        x.leaves(2);
        due("owns alone", x.holders(1, OWNS), 16);
        due("in any, too", x.holders(1, 0), 16);
        x.ask(0, 2, SHARES);
        due("looks of two", x.holders(0, LOOKS), 33);
        due("held", x.held(5, 0, LOOKS), 1);
        due("not held", x.held(1, 0, LOOKS), 0);
        due("mode 0", x.held(0, 0, 0), BAD);
        due("mode 6", x.held(0, 0, 6), BAD);
        due("owner 6", x.held(6, 0, 1), BAD);
        due("owner below", x.held(-1, 0, 1), BAD);
        due("thing 4", x.held(0, 4, 1), BAD);
        due("thing below", x.held(0, MIN, 1), BAD);
    }

    // promises 11 and 12
    private static void waitsAndLine() {
        LockTable x = tree();
        x.ask(0, 3, OWNS);
        x.ask(4, 3, SHARES);
        x.ask(1, 0, UPDATES);
        due("waits", x.waits(4), 320);
        due("waits 0", x.waits(1), 40);
        due("waits not", x.waits(0), NOT);
        due("BAD", x.waits(6), BAD);
        due("BAD below", x.waits(-1), BAD);
        due("how many", x.line(-1), 2);
        due("first", x.line(0), 4);
        due("second", x.line(1), 1);
        due("third", x.line(2), NOT);
        due("far", x.line(MAX), NOT);
        due("below", x.line(-2), BAD);
        due("far below", x.line(MIN), BAD);
    }

    // promise 13
    private static void waitsFor() {
        LockTable x = tree();
        x.ask(0, 3, SHARES);
        x.ask(1, 2, SHARES);
        x.ask(2, 0, OWNS);
        x.ask(3, 0, OWNS);
        due("barred by two", x.waitsFor(2), 3);
        due("barred by two, behind one", x.waitsFor(3), 7);
        due("not in the line", x.waitsFor(0), 0);
        due("BAD", x.waitsFor(6), BAD);
        due("BAD below", x.waitsFor(-1), BAD);
        x.leaves(2);
        due("not behind any more", x.waitsFor(3), 3);
    }

    // promise 14
    private static void rings() {
        LockTable x = new LockTable();
        for (int k = 0; k < 6; k++) x.thing(-1, 0);
        for (int k = 0; k < 5; k++) x.ask(k, k, OWNS);
        x.ask(0, 0, OWNS);
        due("what 3", x.ring(3), BAD);
        due("what -1", x.ring(-1), BAD);
        due("no ring", x.ring(0), 0);
        due("no least", x.ring(1), NOT);
        due("no counts", x.ring(2), NOT);
        x.ask(0, 1, SHARES);
        x.ask(1, 2, SHARES);
        due("a row is no ring", x.ring(0), 0);
        x.ask(2, 0, SHARES);
        due("ring of three", x.ring(0), 7);
        due("greatest number of the fewest", x.ring(1), 2);
        due("its counts", x.ring(2), 1);
        x.ask(5, 0, SHARES);
        due("who waits for a ring is not of it", x.ring(0), 7);
        x.ask(3, 4, SHARES);
        x.ask(4, 3, SHARES);
        due("two rings", x.ring(0), 31);
        due("least of both", x.ring(1), 4);
        due("first breaks", x.breaks(), 4);
        due("one ring left", x.ring(0), 7);
        // looks and means are not counted; shares, updates, owns at all things are
        LockTable y = new LockTable();
        y.thing(-1, 0);
        for (int k = 0; k < 4; k++) y.thing(k, 0);
        y.thing(-1, 0);
        y.ask(0, 4, OWNS);
        y.ask(1, 5, OWNS);
        y.ask(1, 5, SHARES);
        y.ask(0, 5, SHARES);
        y.ask(1, 4, SHARES);
        due("ring", y.ring(0), 3);
        due("0 has one, though five with what it means", y.ring(1), 0);
        due("counts of 0", y.ring(2), 1);
        // one waits behind another who waits for it
        LockTable z = tree();
        z.ask(0, 2, OWNS);
        z.ask(1, 1, SHARES);
        z.ask(2, 1, OWNS);
        z.ask(0, 1, SHARES);
        due("0 behind 2", z.waitsFor(0), 4);
        due("no ring", z.ring(0), 0);
        z.ask(1, 2, SHARES);
        due("1 for 0 for 2 for 1", z.ring(0), 7);
        due("2 has nothing", z.ring(1), 2);
        due("none", z.ring(2), 0);
    }

    // promise 15
    private static void counts() {
        LockTable x = tree();
        due("things", x.count(0), 4);
        x.ask(0, 3, SHARES);
        x.ask(1, 3, OWNS);
        x.plan(0, 0, 2);
        x.plan(0, 0, 2);
        x.feed(65);
        x.spells();
        due("line", x.count(1), 1);
        due("counts", x.count(2), 3);
        due("rows", x.count(3), 2);
        due("tape", x.count(4), 1);
        due("paper", x.count(5), 15);
        due("granted", x.count(6), 1);
        due("BAD", x.count(7), BAD);
        due("BAD below", x.count(-1), BAD);
        x.image();
        x.leaves(0);
        due("served ones, too", x.count(6), 2);
        x.back();
        due("behind back", x.count(6), 2);
        due("line is back", x.count(1), 1);
        x.plays(2);
        x.lots(60, 3, 0);
        x.would(2, 0, SHARES);
        due("not those in thought", x.count(6), 2);
    }

    // promise 16
    private static void would() {
        LockTable x = tree();
        x.ask(0, 1, OWNS);
        x.ask(1, 2, OWNS);
        due("can be", x.would(2, 3, SHARES), 0);
        due("1", x.would(0, 3, SHARES), 1);
        due("0", x.would(0, 2, SHARES), 0);
        x.ask(0, 2, SHARES);
        due("2", x.would(1, 1, SHARES), 2);
        due("nothing has changed", x.line(-1), 1);
        due("another is not of the ring", x.would(2, 1, SHARES), 0);
        due("STATE", x.would(0, 1, SHARES), STATE);
        due("BAD ahead", x.would(0, 1, LOOKS), BAD);
        due("owner", x.would(6, 1, SHARES), BAD);
        due("owner below", x.would(-1, 1, SHARES), BAD);
        due("thing", x.would(1, 4, SHARES), BAD);
        due("mode", x.would(1, 1, MEANS), BAD);
        // a ring there is, but without this owner
        x.ask(1, 1, SHARES);
        due("outside of a ring", x.would(2, 1, SHARES), 0);
        due("not in a thing", x.would(2, 0, SHARES), 0);
        // what ask() refuses as NOT is told all the same
        LockTable y = tree();
        y.ask(0, 1, SHARES);
        y.ask(1, 1, SHARES);
        y.ask(0, 1, OWNS);
        due("would be of the ring", y.would(1, 1, OWNS), 2);
        due("though not", y.ask(1, 1, OWNS), NOT);
    }

    // promise 17
    private static void needs() {
        LockTable x = tree();
        x.ask(0, 3, SHARES);
        x.ask(1, 2, SHARES);
        x.ask(2, 1, OWNS);
        due("none", x.needs(3, 0, SHARES), 0);
        due("who bars and who is ahead", x.needs(3, 1, OWNS), 5);
        due("who holds and who holds a part", x.needs(3, 0, OWNS), 3);
        due("not itself", x.needs(0, 3, OWNS), 0);
        due("0 at 0", x.needs(0, 0, OWNS), 2);
        due("nothing has changed", x.holders(0, 0), 3);
        due("STATE", x.needs(2, 0, SHARES), STATE);
        due("BAD ahead", x.needs(2, 0, 3), BAD);
        due("owner", x.needs(-1, 0, 2), BAD);
        due("owner 6", x.needs(6, 0, 2), BAD);
        due("thing", x.needs(1, 4, 2), BAD);
        due("a raise needs not who is ahead", x.needs(0, 1, SHARES), 4);
    }

    // promise 18
    private static void strongest() {
        LockTable x = tree();
        due("owns", x.strongest(0, 0), OWNS);
        x.ask(0, 1, SHARES);
        due("updates", x.strongest(1, 1), UPDATES);
        due("0 itself", x.strongest(0, 1), OWNS);
        due("at the part", x.strongest(1, 3), SHARES);
        x.ask(0, 2, UPDATES);
        due("shares", x.strongest(1, 2), SHARES);
        due("at the whole not", x.strongest(1, 0), NOT);
        x.ask(1, 2, OWNS);
        due("STATE", x.strongest(1, 1), STATE);
        due("behind", x.strongest(3, 2), NOT);
        due("BAD ahead", x.strongest(1, 4), BAD);
        due("owner", x.strongest(6, 0), BAD);
        due("owner below", x.strongest(-1, 0), BAD);
        due("thing below", x.strongest(0, -1), BAD);
    }

    // promise 19
    private static void plans() {
        LockTable x = tree();
        for (int k = 1; k <= 12; k++) due("row " + k, x.plan(k % 6, k % 4, SHARES), k);
        due("BAD ahead of FULL", x.plan(0, 4, SHARES), BAD);
        due("BAD mode", x.plan(0, 0, 3), BAD);
        due("BAD owner", x.plan(6, 0, 2), BAD);
        due("BAD owner -2", x.plan(-2, 0, 2), BAD);
        due("BAD thing", x.plan(0, -1, 2), BAD);
        due("FULL", x.plan(0, 0, 2), FULL);
        due("none, whatever the others are", x.plan(-1, MAX, MIN), 0);
        due("rows", x.count(3), 0);
        due("one again", x.plan(5, 3, OWNS), 1);
        due("none are held by it", x.count(2), 0);
    }

    // promise 20
    private static void plays() {
        LockTable x = tree();
        due("what", x.plays(3), BAD);
        due("what below", x.plays(-1), BAD);
        due("no rows", x.plays(0), 0);
        x.plan(3, 1, OWNS);
        due("a row, then through", x.plays(0), 2);
        due("none broke", x.plays(1), 0);
        due("one granted", x.plays(2), 1);
        x.plan(4, 1, OWNS);
        // round 1: 3 has it, 4 waits; round 2: 3 is through, 4 is served and through in the same round
        due("4 follows in the round", x.plays(0), 2);
        due("two granted", x.plays(2), 2);
        x.plan(0, 1, SHARES);
        // round 1: 0 has it, 3 waits, 4 waits; round 2: 0 through, 3 through, 4 through
        due("one behind the other", x.plays(0), 2);
        due("three granted", x.plays(2), 3);
        due("nothing has changed", x.count(2) + x.count(1) + x.count(6), 0);
        // by numbers: the one with the greater number is served when the turn has passed the lesser
        LockTable y = tree();
        y.plan(5, 1, OWNS);
        y.plan(0, 2, SHARES);
        y.plan(0, 1, SHARES);
        // 1: 0 has 2, 5 has 1. 2: 0 waits, 5 through, 0 served. 3: 0 through
        due("three rounds", y.plays(0), 3);
        // a refused row is done
        LockTable z = tree();
        z.ask(0, 1, SHARES);
        z.ask(1, 1, SHARES);
        z.ask(0, 1, OWNS);
        z.plan(1, 1, OWNS);
        z.plan(1, 2, SHARES);
        // 1: 1 is refused. 2: 1 has 2. 3: 1 through, 0 is served
        due("refused is done", z.plays(0), 3);
        due("granted, served ones, too", z.plays(2), 2);
    }

    private static void playsLong() {
        LockTable x = tree();
        x.ask(0, 1, OWNS);
        x.plan(1, 1, SHARES);
        due("not by 40", x.plays(0), 41);
        due("none broke", x.plays(1), 0);
        due("none granted", x.plays(2), 0);
        x.plan(0, 1, OWNS);
        // 1: 0 counts again, 1 waits. 2: 0 through, 1 served, through
        due("the holder comes, too", x.plays(0), 2);
        due("two", x.plays(2), 2);
        // one who waits from the outset
        LockTable y = tree();
        y.ask(0, 1, OWNS);
        y.ask(1, 1, SHARES);
        y.plan(1, 2, SHARES);
        due("it never has a turn", y.plays(0), 41);
        due("so none", y.plays(2), 0);
    }

    private static void playsOthers() {
        // two without rows are a ring at the outset; the least of it is one without rows
        LockTable x = tree();
        x.ask(0, 1, OWNS);
        x.ask(1, 2, OWNS);
        x.ask(0, 2, SHARES);
        x.ask(1, 1, SHARES);
        x.plan(2, 3, SHARES);
        // 1: 2 waits behind 0; ring 0 1: 1 leaves, 0 is served. 2 waits on for 0, who has no rows
        due("41", x.plays(0), 41);
        due("once", x.plays(1), 1);
        due("0's ask", x.plays(2), 1);
        due("the ring is still there", x.ring(0), 3);
        // the ring breaks behind the last round, too
        LockTable y = tree();
        y.ask(0, 1, OWNS);
        y.ask(1, 2, OWNS);
        y.ask(0, 2, SHARES);
        y.ask(1, 1, SHARES);
        y.plan(2, 0, SHARES);
        y.plan(-1, 0, 0);
        y.plan(0, 0, SHARES);
        // 1: 0 waits; 1 leaves, 0 has 2. 2: 0 has 0. 3: 0 through
        due("three rounds", y.plays(0), 3);
        due("one broke", y.plays(1), 1);
        due("two granted", y.plays(2), 2);
        // the row of the least that waited is done; its next ones go on
        LockTable z = tree();
        z.plan(0, 1, OWNS);
        z.plan(1, 2, OWNS);
        z.plan(0, 2, OWNS);
        z.plan(1, 1, OWNS);
        z.plan(1, 3, SHARES);
        // 1: both. 2: both wait; 1 leaves, 0 has 2. 3: 0 through; 1 has 3. 4: 1 through
        due("four rounds", z.plays(0), 4);
        due("one broke", z.plays(1), 1);
        due("four granted", z.plays(2), 4);
        // one ring a round
        LockTable v = new LockTable();
        for (int k = 0; k < 5; k++) v.thing(-1, 0);
        for (int k = 0; k < 4; k++) v.ask(k, k, OWNS);
        v.ask(0, 1, OWNS);
        v.ask(1, 0, OWNS);
        v.ask(2, 3, OWNS);
        v.ask(3, 2, OWNS);
        v.plan(5, 4, OWNS);
        due("two rounds", v.plays(0), 2);
        due("one each round, the last one counted", v.plays(1), 2);
        due("two served, one granted", v.plays(2), 3);
        // the least is 0
        LockTable w = tree();
        w.ask(1, 2, OWNS);
        w.ask(1, 2, OWNS);
        w.plan(0, 1, OWNS);
        w.plan(0, 2, OWNS);
        w.plan(1, 1, OWNS);
        w.plan(1, 1, OWNS);
        // 1: 0 has 1, 1 waits. 2: 0 waits; 0 leaves, 1 has 1. 3: 0 through, 1 has 1 again. 4: 1 through
        due("four rounds with 0 the least", w.plays(0), 4);
        due("0 broke", w.plays(1), 1);
        due("three granted", w.plays(2), 3);
    }

    // promise 21
    private static void lots() {
        LockTable x = new LockTable();
        due("no things", x.lots(1, 0, 0), STATE);
        due("BAD ahead of STATE", x.lots(0, 0, 0), BAD);
        due("BAD ahead of STATE", x.lots(61, 0, 0), BAD);
        due("BAD ahead of STATE, what", x.lots(1, 0, 2), BAD);
        due("what below", x.lots(1, 0, -1), BAD);
        x.thing(-1, 0);
        // z 0: 12345 / 65536 is 0, owner 0; only thing 0; then a mode: granted as it is the first
        due("first of all is granted", x.lots(1, 0, 0), 1);
        due("nobody waits", x.lots(1, 0, 1), 0);
        due("MIN", x.lots(1, MIN, 0), 1);
        due("MAX", x.lots(1, MAX, 1), 0);
        x.ask(0, 0, OWNS);
        // now 0 alone may ask; with z 0 it is drawn
        due("0 asks", x.lots(1, 0, 0), 1);
        x.leaves(0);
        x.ask(5, 0, OWNS);
        due("0 waits", x.lots(1, 0, 1), 1);
        due("0 is not granted", x.lots(1, 0, 0), 0);
        due("all but 5 wait in the end", x.lots(60, 7, 1), 5);
        due("nothing has changed", x.line(-1) + x.count(6), 2);
        due("drawn by hand", drawnByHand(60, -77), new LockTableOf(3).x.lots(60, -77, 0));
    }

    /** Three things without parts, where owners' asks are worked out by a table of holds alone. */
    private static final class LockTableOf {
        final LockTable x = new LockTable();

        LockTableOf(int things) {
            for (int k = 0; k < things; k++) x.thing(-1, 0);
        }
    }

    private static int drawnByHand(int n, int seed) {
        LockTable x = new LockTableOf(3).x;
        int z = seed;
        int granted = 0;
        for (int k = 0; k < n; k++) {
            z = z * 1103515245 + 12345;
            int owner = (z & Integer.MAX_VALUE) / 65536 % 6;
            if (x.waits(owner) != NOT) continue;
            z = z * 1103515245 + 12345;
            int thing = (z & Integer.MAX_VALUE) / 65536 % 3;
            z = z * 1103515245 + 12345;
            int mode = new int[] {2, 4, 5}[(z & Integer.MAX_VALUE) / 65536 % 3];
            if (x.ask(owner, thing, mode) == 1) granted++;
        }
        return granted;
    }

    // promise 22
    private static void weighs() {
        LockTable x = tree();
        x.ask(0, 3, SHARES);
        x.ask(0, 2, UPDATES);
        x.ask(1, 1, SHARES);
        // at 0: looks 2, means 1; at 1: looks 1, shares 1; at 2: updates 1; at 3: shares 1
        due("weight of 0", x.weighs(0), 7);
        due("entries of 0: once, and in each of three", x.gate(0, 0), 4);
        due("deepest of 0: 0, in 1, in 3", x.gate(0, 1), 3);
        due("entries of 1", x.gate(1, 0), 1);
        due("deepest of 1", x.gate(1, 1), 1);
        due("weight of 1", x.weighs(1), 3);
        due("entries of 1 again", x.gate(1, 0), 3);
        due("deepest of 1 again", x.gate(1, 1), 2);
        due("0 is not gone into", x.gate(0, 0), 4);
        due("BAD", x.weighs(4), BAD);
        due("BAD below", x.weighs(-1), BAD);
        x.thing(3, 1);
        due("a bare part below", x.weighs(0), NOTHING);
        // by numbers: 1, in it 3, in that 4 is bare: 2 is not come to
        due("entries ahead of that", x.gate(0, 0), 7);
        due("2 is not gone into", x.gate(2, 0), 1);
        due("3 is", x.gate(3, 0), 3);
        due("all are left", x.gate(0, 2) + x.gate(1, 2) + x.gate(3, 2), 0);
        due("a bare one itself", x.weighs(4), NOTHING);
        LockTable y = tree();
        y.ask(0, 2, SHARES);
        due("a part of no weight, then one of some", y.weighs(0), 2);
        y.thing(0, 1);
        y.thing(0, 0);
        due("a bare part of its own", y.weighs(0), NOTHING);
        due("gates ahead of it", y.gate(2, 0), 2);
        due("not the one behind it", y.gate(5, 0), 0);
        due("its sibling", x.weighs(2), 1);
        due("deepest is not more", x.gate(0, 1), 3);
    }

    // promise 23
    private static void plunges() {
        LockTable x = tree();
        x.thing(-1, 1);
        due("n", x.plunges(0, 4, 0), 4);
        due("k", x.plunges(0, 4, 2), 2);
        due("k is n", x.plunges(0, 4, 4), 4);
        due("once", x.plunges(0, 1, 1), 1);
        due("entries", x.gate(0, 0), 11);
        due("deepest", x.gate(0, 1), 4);
        due("inside", x.gate(0, 2), 0);
        due("30", x.plunges(0, 30, 0), 30);
        due("deepest 30", x.gate(0, 1), 30);
        due("31", x.plunges(0, 31, 0), BAD);
        due("0", x.plunges(0, 0, 0), BAD);
        due("k above n", x.plunges(0, 3, 4), BAD);
        due("k below", x.plunges(0, 3, -1), BAD);
        due("thing", x.plunges(5, 1, 0), BAD);
        due("thing below", x.plunges(-1, 1, 0), BAD);
        due("n far", x.plunges(0, MAX, MAX), BAD);
        due("bare", x.plunges(4, 1, 0), NOTHING);
        due("BAD ahead of NOTHING", x.plunges(4, 31, 0), BAD);
        due("entries are as they were", x.gate(0, 0), 41);
    }

    // promises 24 and 25
    private static void bells() {
        LockTable x = tree();
        x.thing(-1, 1);
        due("inside, for one", x.bell(1, 0), 1);
        due("inside, for all", x.bell(1, 1), 1);
        due("outside", x.bell(1, 2), OUTSIDE);
        due("outside, for all", x.bell(1, 3), OUTSIDE);
        due("gone into twice", x.gate(1, 0), 2);
        due("deepest", x.gate(1, 1), 1);
        due("inside now", x.gate(1, 2), 0);
        due("how", x.bell(1, 4), BAD);
        due("how below", x.bell(1, -1), BAD);
        due("thing", x.bell(5, 0), BAD);
        due("bare", x.bell(4, 0), NOTHING);
        due("bare ahead of outside", x.bell(4, 2), NOTHING);
        due("BAD ahead of bare", x.bell(4, 4), BAD);
        due("gate of a bare one", x.gate(4, 0), NOTHING);
        due("BAD ahead of it", x.gate(4, 3), BAD);
        due("what below", x.gate(0, -1), BAD);
        due("gate of none", x.gate(5, 0), BAD);
        due("a new gate", x.gate(0, 0) + x.gate(0, 1) + x.gate(0, 2), 0);
    }

    // promise 26
    private static void feeds() {
        LockTable x = new LockTable();
        due("0", x.feed(0), BAD);
        due("128", x.feed(128), BAD);
        due("-1", x.feed(-1), BAD);
        due("256 and 65", x.feed(321), BAD);
        for (int k = 1; k <= 120; k++) due("byte " + k, x.feed(128 - k), k);
        due("BAD ahead of FULL", x.feed(0), BAD);
        due("FULL", x.feed(1), FULL);
        due("count", x.count(4), 120);
        due("first is no words", x.reads(), -1000);
        due("empty behind it", x.count(4), 0);
    }

    // promise 27
    private static void readsLetters() {
        String[] words = {"", "x", "+1;", "s", "s0", "s0 ", "s0 1", "s0  1", "s01", "ss0 1", "g", "g+", "gs0 1;;",
            "+123", "+1 ", "s0 123", "S0 1", ";+", "+;g", "-;-;-x", "go9 9 ", "u\1", "+a", "gg"};
        int[] faults = {0, 0, 3, 1, 2, 3, 0, 3, 2, 1, 1, 1, 6, 3, 2, 5, 0, 0, 3, 5, 5, 1, 1, 1};
        for (int k = 0; k < words.length; k++) {
            LockTable x = tree();
            if (words[k].equals("s0 1")) due(words[k], reads(x, words[k]), 1);
            else due("letters of " + words[k], reads(x, words[k]), -1000 - faults[k]);
            due("empty", x.count(4), 0);
        }
        LockTable x = tree();
        due("letters ahead of refusals", reads(x, "s9 9;s0 1;x"), -1010);
        due("nothing has come", x.count(2), 0);
        StringBuilder all = new StringBuilder("+");
        while (all.length() < 119) all.append(";+");
        due("60 statements, the ninth of them FULL", reads(x, all.toString()), -2016);
        due("as many things as before", x.count(0), 4);
        due("a semicolon at the very end", reads(x, all + ";"), -1120);
        StringBuilder asks = new StringBuilder("s0 1");
        while (asks.length() < 119) asks.append(";s0 1");
        due("24 statements", reads(x, asks.toString()), 24);
        due("24 times", x.held(0, 1, SHARES), 24);
    }

    private static void readsRefusals() {
        LockTable x = tree();
        due("a waiting one is not refused", reads(x, "o0 1;s1 1;s2 2"), 3);
        due("1 waits", x.waits(1), 120);
        due("granted", x.count(6), 2);
        due("1 is in the line", reads(x, "s3 2;s1 2"), -2005);
        due("3 has nothing", x.held(3, 2, SHARES), 0);
        due("count(6) is as it was", x.count(6), 2);
        due("giving up what is not held", reads(x, "+;gs3 2"), -2002);
        due("no thing came", x.count(0), 4);
        due("served by words", reads(x, "go0 1"), 1);
        due("1 has it", x.held(1, 1, SHARES), 1);
        due("count(6)", x.count(6), 3);
        due("owner 6", reads(x, "s6 1"), -2000);
        due("owner 9 given up", reads(x, "s0 0;gs9 1"), -2005);
        due("no such thing", reads(x, "s0 04"), -2000);
        due("no such whole", reads(x, "-4"), -2000);
        // a raise that is NOT is refused
        due("shares", reads(x, "s0 3;s1 3;o0 3"), 3);
        due("NOT", reads(x, "+;o1 3"), -2002);
        due("BAD first of two", reads(x, "s8 0;s9 0"), -2000);
        due("counts", x.count(2), 10);
    }

    private static void readsNumbers() {
        LockTable x = new LockTable();
        due("things", reads(x, "+;-0;+01;+00;-"), 5);
        due("1 is bare", x.thingOf(1, 1), 1);
        due("0 is not", x.thingOf(0, 1), 0);
        due("whole of 1", x.thingOf(1, 0), 0);
        due("whole of 2", x.thingOf(2, 0), 1);
        due("whole of 3", x.thingOf(3, 0), 0);
        due("none", x.thingOf(4, 0), -1);
        due("4 is bare", x.thingOf(4, 1), 1);
        due("more", reads(x, "+;+;+;+;+;+;+10;u5 11"), 8);
        due("asked for", x.held(5, 11, UPDATES), 1);
        due("meant", x.held(5, 10, MEANS), 1);
        due("FULL is refused", reads(x, "s0 0;+"), -2005);
        due("owns and given", reads(x, "o5 11;go5 11;gu5 11"), 3);
        due("none", x.count(2), 0);
        due("gates of things by words", x.plunges(11, 2, 0), 2);
    }

    // promises 28 and 29
    private static void spells() {
        LockTable x = new LockTable();
        due("nothing", x.spells(), 0);
        for (int k = 0; k < 12; k++) x.thing(k == 11 ? 10 : -1, 0);
        x.ask(3, 11, SHARES);
        x.ask(1, 11, SHARES);
        x.ask(1, 11, SHARES);
        x.ask(3, 11, UPDATES);
        x.ask(0, 0, OWNS);
        spelledIs("all", x, "0:0o 10:1lx2 10:3l 10:3m 11:1sx2 11:3s 11:3u ");
        int n = x.count(5);
        due("last", x.paper(n - 1), ' ');
        due("beyond", x.paper(n), NOT);
        due("far", x.paper(MAX), NOT);
        due("below", x.paper(-1), BAD);
        x.leaves(0);
        due("stays until the next", x.paper(3), 'o');
        due("stays behind reads", reads(x, "gs3 11") + x.paper(3), 1 + 'o');
        spelledIs("again", x, "10:1lx2 10:3m 11:1sx2 11:3u ");
        for (int k = 0; k < 10; k++) x.ask(1, 9, SHARES);
        spelledIs("two figures", x, "9:1sx10 10:1lx2 10:3m 11:1sx2 11:3u ");
        due("does 100 times", hundred(x), 100);
        spelledIs("three figures", x, "9:1sx110 10:1lx2 10:3m 11:1sx2 11:3u ");
        // a long paper
        LockTable y = new LockTable();
        for (int k = 0; k < 12; k++) y.thing(k - 1, 0);
        for (int owner = 0; owner < 6; owner++) y.ask(owner, 11, SHARES);
        due("all is spelled", y.spells(), 6 * (10 * 5 + 6 + 6));
        due("its last but one", y.paper(6 * 62 - 2), 's');
    }

    private static int hundred(LockTable x) {
        x.list(0, 30);
        for (int k = 0; k < 30; k++) x.set(0, k, k % 3 == 0 ? 1 : k % 3 == 1 ? 9 : SHARES);
        int done = 0;
        for (int k = 0; k < 10; k++) done += x.does(0, 0);
        return done;
    }

    // promises 30, 31, 32
    private static void lists() {
        LockTable x = new LockTable();
        due("list 3", x.list(3, 1), BAD);
        due("list -1", x.list(-1, 1), BAD);
        due("37", x.list(0, 37), BAD);
        due("BAD ahead of BELOW", x.list(3, -1), BAD);
        due("below", x.list(0, -1), BELOW);
        due("far below", x.list(0, MIN), BELOW);
        due("holds nothing still", x.set(0, 0, 1), NOTHING);
        due("no get", x.get(0, 0), LockTable.NO);
        due("36", x.list(0, 36), 1);
        due("set the last", x.set(0, 35, MIN), 1);
        due("get it", x.get(0, 35), MIN);
        due("0 at first", x.get(0, 0), 0);
        due("beyond", x.set(0, 36, 1), BEYOND);
        due("beyond below", x.set(0, -1, 1), BEYOND);
        due("no place", x.get(0, 36), LockTable.NO);
        due("no place below", x.get(0, -1), LockTable.NO);
        due("no list", x.get(3, 0), LockTable.NO);
        due("no list below", x.get(-1, 0), LockTable.NO);
        due("set no list", x.set(3, 0, 1), BAD);
        due("set no list below", x.set(-1, 0, 1), BAD);
        due("others hold nothing", x.set(1, 0, 1), NOTHING);
        due("list 1", x.list(1, 2), 1);
        x.set(1, 0, 7);
        due("0 is as it was", x.get(0, 0), 0);
        due("made anew", x.list(0, 36), 1);
        due("all 0", x.get(0, 35), 0);
        due("of none", x.list(2, 0), 1);
        due("holds a row of none", x.set(2, 0, 0), BEYOND);
        due("get of none", x.get(2, 0), LockTable.NO);
        due("a refused list changes nothing", x.list(1, 37), BAD);
        due("7 is there", x.get(1, 0), 7);
    }

    // promise 33
    private static void does() {
        LockTable x = tree();
        due("list", x.does(3, 0), BAD);
        due("list below", x.does(-1, 0), BAD);
        due("p below", x.does(0, -1), BAD);
        due("nothing", x.does(0, 0), NOTHING);
        due("nothing far", x.does(0, MAX), NOTHING);
        x.list(0, 11);
        int[] row = {0, 1, OWNS, 1, 1, SHARES, 1, 2, SHARES, 9, 9};
        for (int k = 0; k < row.length; k++) x.set(0, k, row[k]);
        due("one granted, one waits, one refused", x.does(0, 0), 2);
        due("1 waits", x.waits(1), 120);
        due("granted", x.count(6), 1);
        due("from the end", x.does(0, 11), 0);
        due("beyond", x.does(0, 12), 0);
        due("far beyond", x.does(0, MAX), 0);
        due("two numbers are not looked at", x.does(0, 9), 0);
        x.leaves(1);
        due("from place 6", x.does(0, 6), 1);
        due("1 shares 2", x.held(1, 2, SHARES), 1);
        x.list(1, 36);
        for (int k = 0; k < 36; k++) x.set(1, k, k % 3 == 0 ? 2 : 2);
        due("twelve", x.does(1, 0), 12);
        due("all held", x.held(2, 2, SHARES), 12);
        x.list(2, 0);
        due("a row of none", x.does(2, 0), 0);
    }

    // promise 34
    private static void into() {
        LockTable x = tree();
        x.ask(0, 3, SHARES);
        x.ask(0, 3, SHARES);
        x.ask(5, 3, UPDATES);
        due("nothing", x.into(3, 0, 0), NOTHING);
        due("BAD thing ahead", x.into(4, 0, 0), BAD);
        due("BAD thing below", x.into(-1, 0, 0), BAD);
        due("BAD list", x.into(0, 3, 0), BAD);
        due("BAD list below", x.into(0, -1, 0), BAD);
        due("NOTHING ahead of BEYOND", x.into(0, 0, -1), NOTHING);
        x.list(0, 36);
        due("BEYOND", x.into(0, 0, -1), BEYOND);
        due("BEYOND far", x.into(0, 0, MIN), BEYOND);
        for (int k = 0; k < 36; k++) x.set(0, k, 99);
        due("all", x.into(3, 0, 3), 30);
        due("ahead", x.get(0, 2), 99);
        due("looks of 0", x.get(0, 3), 0);
        due("shares of 0", x.get(0, 4), 2);
        due("updates of 5", x.get(0, 3 + 28), 1);
        due("owns of 5", x.get(0, 3 + 29), 0);
        due("behind", x.get(0, 33), 99);
        due("till the list ends", x.into(0, 0, 34), 2);
        due("looks at 0", x.get(0, 34), 2);
        due("from the end", x.into(0, 0, 36), 0);
        due("far", x.into(0, 0, MAX), 0);
        x.list(1, 0);
        due("into none", x.into(0, 1, 0), 0);
    }

    // promises 35 and 36
    private static void images() {
        LockTable x = tree();
        due("none", x.back(), STATE);
        x.ask(0, 1, OWNS);
        x.ask(1, 1, SHARES);
        x.plan(3, 3, SHARES);
        due("kept", x.image(), 4);
        x.thing(-1, 0);
        x.ask(2, 4, OWNS);
        x.leaves(0);
        x.plan(-1, 0, 0);
        x.list(0, 2);
        x.set(0, 1, 5);
        x.feed('+');
        x.spells();
        int paper = x.count(5);
        due("granted", x.count(6), 3);
        due("back", x.back(), 4);
        due("things", x.count(0), 4);
        due("0 owns", x.held(0, 1, OWNS), 1);
        due("1 waits", x.waits(1), 120);
        due("1 has nothing", x.held(1, 1, SHARES), 0);
        due("2 has nothing", x.holders(0, 0), 1);
        due("plan", x.count(3), 1);
        due("granted stays", x.count(6), 3);
        due("list stays", x.get(0, 1), 5);
        due("tape stays", x.count(4), 1);
        due("paper stays", x.count(5), paper);
        due("thing 4 is gone", x.held(2, 4, OWNS), BAD);
        x.leaves(0);
        due("back once more", x.back(), 4);
        due("0 owns again", x.held(0, 1, OWNS), 1);
        x.leaves(0);
        due("a new image", x.image(), 4);
        x.leaves(1);
        x.back();
        due("the newer one", x.held(1, 1, SHARES), 1);
        LockTable y = new LockTable();
        due("image of none", y.image(), 0);
        y.thing(-1, 0);
        due("back to none", y.back(), 0);
        due("none", y.count(0), 0);
        due("no lots", y.lots(1, 1, 0), STATE);
        // a thing comes again at its number, held by nobody
        LockTable z = tree();
        z.image();
        z.thing(-1, 0);
        z.ask(0, 4, OWNS);
        z.back();
        due("4 again", z.thing(0, 1), 4);
        due("held by nobody", z.thingOf(4, 4), 0);
        due("its new whole", z.thingOf(4, 0), 0);
    }

    private static void gatesBehindBack() {
        LockTable x = tree();
        x.plunges(0, 5, 0);
        x.image();
        x.plunges(0, 6, 0);
        x.thing(-1, 0);
        x.plunges(4, 7, 0);
        x.back();
        due("gates of things that stay count on", x.gate(0, 0), 11);
        due("deepest, too", x.gate(0, 1), 6);
        due("no thing 4", x.gate(4, 0), BAD);
        x.thing(-1, 0);
        due("a gate of its own", x.gate(4, 0) + x.gate(4, 1), 0);
        due("a fault leaves gates alone", reads(x, "+;x"), -1002);
        due("a refusal, too", reads(x, "+;s9 0"), -2002);
        due("5 comes", x.thing(-1, 0), 5);
        due("with a new gate", x.gate(5, 0), 0);
    }
}
