/** The sentences on LISTS, THE IMAGE, and of promises 30 to 36, that name an edge; and that objects share nothing. */
public final class EdgesOfRowsTest {
    private static final Edges E = new Edges("EdgesOfRowsTest");
    private static final String[] NO_LISTS = {"MIN", "-1", "3", "4", "MAX"};
    private static final String CHAIN = "tree -1 0 1 2 3 4 5 6 7 8 9 10\n";

    public static void main(String[] args) {
        list();
        set();
        get();
        does();
        doesRefused();
        doesOneByOne();
        into();
        intoRefused();
        image();
        back();
        backStays();
        backGates();
        backThings();
        int wrong = E.end() + apart();
        if (wrong != 0) System.exit(1);
    }

    private static void list() {
        E.edge("LISTS 0 .. 2 hold nothing (at first)", Edges.each("get ? 0 = NO", "0", "1", "2")
            + Edges.each("set ? 0 1 = NOTHING", "0", "1", "2") + Edges.each("does ? 0 = NOTHING", "0", "1", "2"));
        E.edge("30: BAD: list", Edges.each("list ? 1 = BAD", NO_LISTS) + Edges.each("list ? 1 = 1", "0", "1", "2"));
        E.edge("30: BAD: n above 36", Edges.each("list 0 ? = BAD", "37", "38", "MAX") + "set 0 0 1 = NOTHING\nlist 0 36 = 1\n");
        E.edge("30: BELOW: a size below 0", Edges.each("list 0 ? = BELOW", "-1", "-36", "MIN") + "set 0 0 1 = NOTHING\nlist 0 0 = 1\n");
        E.edge("30: BAD ahead of BELOW", Edges.each("list ? -1 = BAD", NO_LISTS));
        E.edge("30: a row of n ints, all 0: 0 of them", "list 2 0 = 1\nrow 2 =\nset 2 0 1 = BEYOND\n");
        E.edge("30: a row of n ints, all 0: 36 of them", "list 2 36 = 1\nrow 2 = " + "0 ".repeat(36) + "\n");
        E.edge("30: a LIST becomes a row anew: all 0: shorter, longer, as long", """
            fill 1 7 8 9
            list 1 2 = 1
            row 1 = 0 0
            list 1 4 = 1
            row 1 = 0 0 0 0
            fill 1 5 6
            list 1 2 = 1
            row 1 = 0 0
            list 1 3 = 1
            row 1 = 0 0 0
            """);
        E.edge("30: what is refused changes nothing", "fill 1 7 8 9\nlist 1 37 = BAD\nlist 1 -1 = BELOW\nrow 1 = 7 8 9\n");
        E.edge("30: LISTS apart", "fill 0 1\nfill 2 3\nfill 1 2\nrow 0 = 1\nrow 1 = 2\nrow 2 = 3\nlist 1 36 = 1\nrow 0 = 1\nrow 2 = 3\n");
    }

    private static void set() {
        E.edge("31: BAD: list", "list 0 2 = 1\n" + Edges.each("set ? 0 1 = BAD", NO_LISTS));
        E.edge("31: NOTHING, ahead of BEYOND; BAD ahead of it", "set 0 0 1 = NOTHING\nset 0 -1 1 = NOTHING\nset 0 36 1 = NOTHING\nset 3 -1 1 = BAD\n");
        E.edge("31: BEYOND: no such place", "list 0 2 = 1\n" + Edges.each("set 0 ? 1 = BEYOND", "MIN", "-1", "2", "36", "MAX")
            + "row 0 = 0 0\n");
        E.edge("31: becomes v: the least int, the greatest", """
            list 0 36 = 1
            set 0 0 MIN = 1
            set 0 35 MAX = 1
            set 0 1 -1 = 1
            get 0 0 = MIN
            get 0 35 = MAX
            get 0 1 = -1
            get 0 2 = 0
            """);
    }

    private static void get() {
        E.edge("32: NO: no such LIST", "list 0 1 = 1\n" + Edges.each("get ? 0 = NO", NO_LISTS));
        E.edge("32: NO: nothing there", "get 0 0 = NO\nget 2 0 = NO\nget 1 -1 = NO\n");
        E.edge("32: NO: no such place", "list 0 2 = 1\n" + Edges.each("get 0 ? = NO", "MIN", "-1", "2", "36", "MAX") + "get 0 1 = 0\n");
        E.edge("32: NO is none of the ints", "list 0 1 = 1\nset 0 0 MIN = 1\nget 0 0 = -2147483648\nget 0 1 = NO\n");
    }

    private static void does() {
        E.edge("33: from the end of the LIST on or beyond it: 0", "tree -1\nfill 0 0 0 2\n"
            + Edges.each("does 0 ? = 0", "3", "4", "36", "MAX") + "count 6 = 0\ndoes 0 0 = 1\n");
        E.edge("33: of a row of none: 0", "tree -1\nlist 0 0 = 1\ndoes 0 0 = 0\ndoes 0 1 = 0\n");
        E.edge("Said once more: a row's last numbers, if there are not three, are not looked at", """
            tree -1
            fill 0 0 0 2 1 0
            does 0 0 = 1
            does 0 3 = 0
            does 0 4 = 0
            fill 1 0
            does 1 0 = 0
            fill 1 0 0
            does 1 0 = 0
            fill 1 0 0 2 1
            does 1 0 = 1
            count 6 = 2
            """);
        E.edge("33: from place p on", """
            tree -1 -1
            fill 0 9 0 0 2 2 1 5
            does 0 1 = 2
            held 0 0 2 = 1
            held 2 1 5 = 1
            does 0 4 = 1
            held 2 1 5 = 2
            does 0 2 = 0
            """);
        E.edge("33: a LIST of 36: twelve ASKS", "tree -1\nlist 2 36 = 1\n"
            + Edges.each("set 2 ? 2 = 1", "2", "5", "8", "11", "14", "17", "20", "23", "26", "29", "32", "35")
            + "does 2 0 = 12\nheld 0 0 2 = 12\ndoes 2 33 = 1\ndoes 2 34 = 0\nheld 0 0 2 = 13\nget 2 35 = 2\n");
    }

    private static void doesRefused() {
        E.edge("33: BAD: list", Edges.each("does ? 0 = BAD", NO_LISTS));
        E.edge("33: BAD: p below 0", "tree -1\nfill 0 0 0 2\ndoes 0 -1 = BAD\ndoes 0 MIN = BAD\ncount 6 = 0\n");
        E.edge("33: NOTHING; BAD ahead of it", "does 0 0 = NOTHING\ndoes 0 MAX = NOTHING\ndoes 0 -1 = BAD\ndoes 3 0 = BAD\n");
        E.edge("33: what is refused is left out: BAD", """
            tree -1 0
            fill 0 6 0 2 -1 0 2 0 2 2 0 -1 2 0 0 3 0 0 0 MAX 0 2 0 MIN 2 0 0 MAX 5 1 5
            does 0 0 = 1
            held 5 1 5 = 1
            count 6 = 1
            """);
        E.edge("33: what is refused is left out: STATE, NOT", """
            tree -1
            fill 0 0 0 2 1 0 2 0 0 5 0 0 2 1 0 5 2 0 2
            does 0 0 = 4
            line -1 = 2
            waits 0 = 51
            waits 1 = NOT
            waits 2 = 20
            """);
    }

    private static void doesOneByOne() {
        E.edge("33: one by one: how many were GRANTED or wait", """
            tree -1
            fill 0 0 0 5 1 0 2 2 0 2
            does 0 0 = 3
            line -1 = 2
            count 6 = 1
            does 0 0 = 1
            held 0 0 5 = 2
            row 0 = 0 0 5 1 0 2 2 0 2
            """);
        E.edge("33: a THING that comes later", "tree -1\nfill 0 0 1 2\ndoes 0 0 = 0\nthing 0 0 = 1\ndoes 0 0 = 1\n");
    }

    private static void into() {
        E.edge("34: of OWNERS 0, 1, .. in MODES 1 .. 5 each", """
            tree -1 0
            ask 0 1 2 = 1
            2 x ask 0 0 2 = 1
            3 x ask 0 0 4 = 1
            ask 5 1 2 = 1
            list 0 30 = 1
            into 0 0 0 = 30
            row 0 = 1 2 0 3 0 0 0 0 0 0 0 0 0 0 0 0 0 0 0 0 0 0 0 0 0 1 0 0 0 0
            into 1 0 0 = 30
            row 0 = 0 1 0 0 0 0 0 0 0 0 0 0 0 0 0 0 0 0 0 0 0 0 0 0 0 0 1 0 0 0
            """);
        E.edge("34: of OWNERS 0, 1, .. in MODES 1 .. 5 each: MEANS, OWNS", """
            tree -1 0
            2 x ask 1 1 5 = 1
            ask 1 0 5 = 1
            list 0 10 = 1
            into 0 0 0 = 10
            row 0 = 0 0 0 0 0 0 0 2 0 1
            """);
        E.edge("34: until either ends: the COUNTS", """
            tree -1
            ask 5 0 5 = 1
            ask 5 0 4 = 1
            fill 1 9 9 9 9 9 9 9 9 9 9 9 9 9 9 9 9 9 9 9 9 9 9 9 9 9 9 9 9 9 9 9 9 9 9 9 9
            into 0 1 3 = 30
            get 1 2 = 9
            get 1 3 = 0
            get 1 31 = 1
            get 1 32 = 1
            get 1 33 = 9
            into 0 1 6 = 30
            get 1 35 = 1
            get 1 5 = 0
            """);
        E.edge("34: until either ends: the LIST", """
            tree -1
            ask 0 0 2 = 1
            fill 1 9 9 9 9
            into 0 1 2 = 2
            row 1 = 9 9 0 1
            into 0 1 3 = 1
            row 1 = 9 9 0 0
            into 0 1 0 = 4
            row 1 = 0 1 0 0
            """);
        E.edge("34: from the end on: none", "tree -1\nask 0 0 2 = 1\nfill 1 9 9\n" + Edges.each("into 0 1 ? = 0", "2", "3", "36", "MAX")
            + "row 1 = 9 9\nlist 0 0 = 1\ninto 0 0 0 = 0\ninto 0 0 MAX = 0\n");
        E.edge("34: a LIST of 36 from each place", "tree -1\nlist 0 36 = 1\ninto 0 0 0 = 30\ninto 0 0 6 = 30\ninto 0 0 7 = 29\n"
            + "into 0 0 35 = 1\ninto 0 0 36 = 0\n");
    }

    private static void intoRefused() {
        E.edge("34: BAD: thing, list", "tree -1\nlist 0 3 = 1\n" + Edges.each("into ? 0 0 = BAD", "MIN", "-1", "1", "12", "MAX")
            + Edges.each("into 0 ? 0 = BAD", NO_LISTS));
        E.edge("34: NOTHING; BAD ahead of it", "tree -1\ninto 0 0 0 = NOTHING\ninto 1 0 0 = BAD\ninto 0 3 0 = BAD\n");
        E.edge("34: NOTHING is said of the LIST: COUNTS at a BARE THING come as any", """
            tree -1b 0
            ask 0 0 2 = 1
            into 0 1 0 = NOTHING
            list 1 3 = 1
            into 0 1 0 = 3
            row 1 = 0 1 0
            into 0 1 -1 = BEYOND
            """);
        E.edge("34: BEYOND: p is below 0; BAD, NOTHING ahead of it", """
            tree -1
            fill 0 9
            into 0 0 -1 = BEYOND
            into 0 0 MIN = BEYOND
            into 0 1 -1 = NOTHING
            into 1 0 -1 = BAD
            into 0 3 -1 = BAD
            into 1 1 -1 = BAD
            row 0 = 9
            """);
    }

    private static void image() {
        E.edge("35: how many THINGS: none, 12", "image = 0\n" + CHAIN + "image = 12\nthing -1 0 = FULL\nback = 12\n");
        E.edge("36: STATE: there is none", "back = STATE\ntree -1\nback = STATE\nimage = 1\nback = 1\nback = 1\n");
        E.edge("35: THE IMAGE of no THINGS is one", "image = 0\ntree -1 0\nplan 0 0 2 = 1\nback = 0\ncount 0 = 0\ncount 3 = 0\nthing -1 1 = 0\nback = 0\n");
        E.edge("35: the newer one is kept", """
            tree -1
            image = 1
            thing 0 0 = 1
            ask 0 1 5 = 1
            image = 2
            leaves 0 = 0
            thing 0 0 = 2
            back = 2
            held 0 1 5 = 1
            back = 2
            """);
        E.edge("35: what is in thought, or has a FAULT, does not come into it", """
            tree -1 -1
            ask 0 0 5 = 1
            image = 2
            plan 1 1 5 = 1
            plays 0 = 2
            lots 60 5 1
            would 1 0 2 = 0
            reads '+;s1 1;s6 0' = -2007
            back = 2
            count 2 = 1
            count 3 = 0
            """);
    }

    private static void back() {
        E.edge("THE IMAGE keeps THINGS", """
            tree -1 0b
            image = 2
            thing 1 0 = 2
            thing 2 1 = 3
            back = 2
            count 0 = 2
            thingOf 2 0 = BAD
            thingOf 1 3 = 0
            thingOf 1 1 = 1
            thing -1 0 = 2
            """);
        E.edge("THE IMAGE keeps HOLDS", """
            tree -1 0
            2 x ask 0 1 5 = 1
            image = 2
            leaves 0 = 0
            ask 1 0 5 = 1
            back = 2
            spells = '0:0mx2 1:0ox2 '
            give 0 1 5 = 0
            give 0 1 5 = 0
            count 2 = 0
            """);
        E.edge("THE IMAGE keeps THE LINE", """
            tree -1 -1
            ask 0 0 5 = 1
            ask 5 0 2 = 0
            ask 3 0 4 = 0
            ask 1 0 5 = 0
            image = 2
            leaves 0 = 2
            leaves 1 = 0
            ask 3 1 2 = 1
            back = 2
            line -1 = 3
            line 0 = 5
            line 1 = 3
            line 2 = 1
            waits 3 = 40
            ask 3 1 2 = STATE
            waitsFor 1 = 41
            """);
        E.edge("THE IMAGE keeps that nobody waits", "tree -1\nask 0 0 5 = 1\nimage = 1\nask 1 0 2 = 0\nback = 1\nline -1 = 0\nwaits 1 = NOT\nask 1 0 4 = 0\n");
        E.edge("THE IMAGE keeps the PLAN: fewer rows then, more rows then", """
            tree -1
            plan 0 0 2 = 1
            plan 0 0 4 = 2
            image = 1
            plan 1 0 2 = 3
            back = 1
            count 3 = 2
            plays 2 = 2
            plan -1 0 0 = 0
            plan 5 0 5 = 1
            back = 1
            count 3 = 2
            plays 0 = 3
            plays 2 = 2
            """);
        E.edge("36: laid back more than once: what comes behind back() does not come into it", """
            tree -1
            ask 0 0 2 = 1
            image = 1
            back = 1
            ask 0 0 2 = 1
            plan 0 0 2 = 1
            thing 0 0 = 1
            back = 1
            held 0 0 2 = 1
            count 3 = 0
            count 0 = 1
            """);
    }

    private static void backStays() {
        E.edge("Said once more: back(): THE TAPE stays", "image = 0\nfeeds '+;'\nback = 0\ncount 4 = 2\nfeeds '-'\nreads = 2\nthingOf 1 1 = 1\n");
        E.edge("Said once more: back(): THE TAPE that is empty stays so", "feeds '+'\nimage = 0\nreads = 1\nback = 0\ncount 4 = 0\nreads = -1000\n");
        E.edge("Said once more: back(): THE PAPER stays", """
            tree -1
            image = 1
            ask 0 0 2 = 1
            spells = '0:0s '
            back = 1
            paper = '0:0s '
            spells = ''
            back = 1
            paper = ''
            """);
        E.edge("Said once more: back(): LISTS stay", """
            fill 0 1 2
            image = 0
            fill 0 3
            fill 1 4 5
            back = 0
            row 0 = 3
            row 1 = 4 5
            set 2 0 0 = NOTHING
            """);
    }

    private static void backGates() {
        E.edge("THE IMAGE keeps not what GATES count: those of THINGS that stay count on", """
            tree -1 0
            plunges 0 3 0 = 3
            image = 2
            plunges 0 5 0 = 5
            bell 1 0 = 1
            back = 2
            gate 0 0 = 8
            gate 0 1 = 5
            gate 1 0 = 1
            gate 0 2 = 0
            """);
        E.edge("Said once more: a THING that comes at a number again has a GATE of its own, that was not gone into yet", """
            tree -1
            image = 1
            thing 0 0 = 1
            plunges 1 4 0 = 4
            back = 1
            gate 1 0 = BAD
            thing -1 0 = 1
            gate 1 0 = 0
            gate 1 1 = 0
            gate 1 2 = 0
            bell 1 0 = 1
            gate 1 0 = 1
            gate 1 1 = 1
            back = 1
            reads '+' = 1
            gate 1 0 = 0
            """);
        E.edge("Said once more: a BARE THING may come at the number of one with a GATE, and the other way round", """
            image = 0
            thing -1 0 = 0
            bell 0 0 = 1
            back = 0
            thing -1 1 = 0
            gate 0 0 = NOTHING
            bell 0 0 = NOTHING
            back = 0
            thing -1 0 = 0
            gate 0 0 = 0
            """);
    }

    private static void backThings() {
        E.edge("THE IMAGE: a THING that comes at a number again is held by nobody, asked for by nobody", """
            tree -1
            image = 1
            thing 0 0 = 1
            2 x ask 0 1 5 = 1
            ask 1 1 5 = 0
            thing 1 0 = 2
            back = 1
            thing -1 1 = 1
            thingOf 1 0 = -1
            thingOf 1 3 = 0
            thingOf 1 4 = 0
            thingOf 1 5 = 0
            holders 1 0 = 0
            holders 0 0 = 0
            would 2 1 5 = 1
            spells = ''
            """);
        E.edge("2: FULL no more behind back()", "image = 0\n" + CHAIN + "thing -1 0 = FULL\nback = 0\nthing -1 0 = 0\n");
    }

    /** All memory is the class's own: each object has its own. */
    private static int apart() {
        LockTable x = new LockTable();
        LockTable y = new LockTable();
        x.thing(-1, 0);
        x.ask(0, 0, 5);
        x.plan(0, 0, 2);
        x.feed('+');
        x.spells();
        x.list(0, 2);
        x.image();
        x.plunges(0, 3, 0);
        long[] got = {y.count(0), y.count(2), y.count(3), y.count(4), y.count(5), y.count(6), y.set(0, 0, 1), y.back(),
            y.thing(-1, 0), y.gate(0, 0), y.gate(0, 1), x.gate(0, 0)};
        long[] due = {0, 0, 0, 0, 0, 0, -11, -5, 0, 0, 0, 3};
        int wrong = 0;
        for (int k = 0; k < due.length; k++) {
            if (got[k] == due[k]) continue;
            wrong++;
            System.out.println("two objects: answer " + k + " was " + got[k] + ", due is " + due[k]);
        }
        return wrong;
    }
}
