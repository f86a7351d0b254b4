/** The sentences of "Terms" and of promises 1 to 15 that name an edge. */
public final class EdgesOfHoldsTest {
    private static final Edges E = new Edges("EdgesOfHoldsTest");
    private static final String CHAIN = "tree -1 0 1 2 3 4 5 6 7 8 9 10\n";
    private static final String[] NO_OWNERS = {"MIN", "-1", "6", "7", "MAX"};
    private static final String[] NOT_ASKED_MODES = {"MIN", "-1", "0", "1", "3", "6", "MAX"};

    public static void main(String[] args) {
        newObject();
        thingsAndWholes();
        goTogether();
        takes();
        raises();
        theLine();
        behind();
        serving();
        givingUp();
        waitingForAndRings();
        least();
        thing();
        thingOf();
        ask();
        askNot();
        give();
        leavesAndForgets();
        breaks();
        heldAndHolders();
        holdersInMoreModes();
        waitsAndLine();
        waitsForAndRing();
        count();
        countOfGranted();
        if (E.end() != 0) System.exit(1);
    }

    private static void newObject() {
        E.edge("1: No THINGS, nothing held", Edges.each("count ? = 0", "0", "1", "2", "3", "4", "5", "6") + """
            line -1 = 0
            line 0 = NOT
            ring 0 = 0
            ring 1 = NOT
            ring 2 = NOT
            breaks = NOT
            waits 0 = NOT
            waitsFor 5 = 0
            leaves 0 = 0
            forgets 0 = STATE
            back = STATE
            plays 0 = 0
            plays 1 = 0
            plays 2 = 0
            paper 0 = NOT
            set 0 0 1 = NOTHING
            set 1 0 1 = NOTHING
            set 2 0 1 = NOTHING
            get 0 0 = NO
            does 1 0 = NOTHING
            reads = -1000
            spells = 0
            plan -1 0 0 = 0
            """);
        E.edge("1: No THINGS: each number of one is BAD", """
            thing 0 0 = BAD
            thingOf 0 0 = BAD
            ask 0 0 2 = BAD
            give 0 0 2 = BAD
            held 0 0 1 = BAD
            holders 0 0 = BAD
            would 0 0 2 = BAD
            needs 0 0 2 = BAD
            strongest 0 0 = BAD
            plan 0 0 2 = BAD
            lots 1 0 0 = STATE
            weighs 0 = BAD
            plunges 0 1 0 = BAD
            bell 0 0 = BAD
            gate 0 0 = BAD
            fill 0 9
            into 0 0 0 = BAD
            """);
    }

    private static void thingsAndWholes() {
        E.edge("Terms: THINGS 0, 1, .. as they come (12 at most)", """
            thing -1 0 = 0
            thing -1 1 = 1
            thing 0 0 = 2
            8 x thing 1 0
            thing 10 0 = 11
            thing -1 0 = FULL
            thingOf 11 0 = 10
            thingOf 12 0 = BAD
            """);
        E.edge("Terms: WHOLES: its WHOLE, that one's, and so on", CHAIN + """
            thingOf 0 2 = 0
            thingOf 1 2 = 1
            thingOf 11 2 = 11
            """);
        E.edge("Terms: PARTS: those whose WHOLE it is, not theirs", """
            tree -1 0 1 0 -1
            thingOf 0 3 = 10
            thingOf 1 3 = 4
            thingOf 2 3 = 0
            thingOf 4 3 = 0
            """);
    }

    /** The mode that one holds at thing 0, by an ask at it, or at a part. */
    private static String askFor(int owner, int mode) {
        return switch (mode) {
            case 1 -> "ask " + owner + " " + (owner + 1) + " 2";
            case 3 -> "ask " + owner + " " + (owner + 1) + " 4";
            default -> "ask " + owner + " 0 " + mode;
        };
    }

    private static void goTogether() {
        String[] goes = {"", "1234", "124", "13", "12", ""};
        for (int held = 1; held <= 5; held++) {
            for (int taken = 1; taken <= 5; taken++) {
                int can = goes[held].contains("" + taken) ? 1 : 0;
                E.edge("Terms: Go together: " + held + " held, " + taken + " asked for", "tree -1 0 0\n"
                    + askFor(0, held) + " = 1\nheld 0 0 " + held + " = 1\n"
                    + askFor(1, taken) + " = " + can + "\nheld 1 0 " + taken + " = " + can + "\nwaitsFor 1 = " + (1 - can));
            }
        }
        E.edge("Terms: BARRED by another OWNER: not by what one holds oneself", """
            tree -1 0
            ask 0 0 5 = 1
            ask 0 0 2 = 1
            ask 0 0 4 = 1
            ask 0 1 5 = 1
            ask 0 1 2 = 1
            ask 0 0 5 = 1
            count 2 = 8
            """);
        E.edge("Terms: BARRED at one of these THINGS: at the uppermost WHOLE", CHAIN + """
            ask 0 0 5 = 1
            ask 1 11 2 = 0
            waitsFor 1 = 1
            would 2 11 5 = 0
            """);
        E.edge("Terms: BARRED at one of these THINGS: not by what is held beside them", """
            tree -1 0 0 1 -1
            ask 0 2 5 = 1
            ask 0 3 5 = 1
            ask 0 4 5 = 1
            ask 1 1 2 = 0
            waitsFor 1 = 1
            give 0 3 5 = 1
            held 1 1 2 = 1
            """);
    }

    private static void takes() {
        E.edge("Terms: TAKES: at each WHOLE LOOKS (ASK by 2)", """
            tree -1 0 1 2 1
            ask 3 2 2 = 1
            held 3 0 1 = 1
            held 3 1 1 = 1
            held 3 2 2 = 1
            held 3 2 1 = 0
            count 2 = 3
            """);
        E.edge("Terms: TAKES: at each WHOLE MEANS (ASK by 4)", """
            tree -1 0 1 2 1
            ask 3 2 4 = 1
            held 3 0 3 = 1
            held 3 1 3 = 1
            held 3 2 4 = 1
            count 2 = 3
            """);
        E.edge("Terms: TAKES: at each WHOLE MEANS (ASK by 5)", """
            tree -1 0 1 2 1
            ask 3 2 5 = 1
            held 3 0 3 = 1
            held 3 1 3 = 1
            held 3 2 5 = 1
            count 2 = 3
            """);
        E.edge("Terms: TAKES: without WHOLES at the THING alone", """
            tree -1 0 -1
            ask 3 0 2 = 1
            ask 3 0 4 = 1
            ask 3 0 5 = 1
            ask 3 2 5 = 1
            count 2 = 4
            """);
        E.edge("Terms: GRANTED: COUNTS are 1 more", """
            tree -1 0
            3 x ask 0 1 2 = 1
            held 0 1 2 = 3
            held 0 0 1 = 3
            ask 0 1 4 = 1
            ask 0 1 5 = 1
            held 0 0 3 = 2
            held 0 1 2 = 3
            """);
    }

    private static void raises() {
        for (int mode : new int[] {2, 4, 5}) {
            E.edge("Terms: a RAISE, with a HOLD by " + mode + ": is not BEHIND", "tree -1\n"
                + "ask 0 0 " + mode + " = 1\nask 1 0 5 = 0\nask 0 0 " + mode + " = 1\nheld 0 0 " + mode + " = 2\n");
        }
        E.edge("Terms: a HOLD by LOOKS makes no RAISE", """
            tree -1 0
            ask 0 1 2 = 1
            ask 2 0 5 = 0
            ask 0 0 2 = 0
            waits 0 = 20
            waitsFor 0 = 4
            """);
        E.edge("Terms: a HOLD by MEANS makes no RAISE", """
            tree -1 0
            ask 0 1 4 = 1
            ask 2 0 2 = 0
            ask 0 0 5 = 0
            waits 0 = 50
            waitsFor 0 = 4
            """);
        E.edge("Terms: a HOLD at its WHOLE makes no RAISE", """
            tree -1 0
            ask 0 0 2 = 1
            ask 2 1 5 = 0
            ask 0 1 2 = 0
            waits 0 = 120
            waitsFor 0 = 4
            """);
        E.edge("Terms: another OWNER's HOLD makes no RAISE", """
            tree -1
            ask 1 0 2 = 1
            ask 0 0 5 = 0
            waits 0 = 50
            """);
        E.edge("Terms: a RAISE is as it is at the moment: it ends when the HOLD is given up", """
            tree -1
            ask 0 0 2 = 1
            ask 1 0 2 = 1
            ask 2 0 5 = 0
            ask 0 0 5 = 0
            waits 0 = 51
            waitsFor 0 = 2
            give 0 0 2 = 0
            waits 0 = 50
            waitsFor 0 = 6
            waitsFor 2 = 2
            """);
        E.edge("Terms: a RAISE is as it is at the moment: one of two HOLDS is enough", """
            tree -1
            2 x ask 0 0 2 = 1
            ask 0 0 4 = 1
            ask 1 0 2 = 1
            ask 0 0 5 = 0
            give 0 0 2 = 0
            waits 0 = 51
            give 0 0 2 = 0
            waits 0 = 51
            give 0 0 4 = 0
            waits 0 = 50
            """);
    }

    private static void theLine() {
        E.edge("Terms: THE LINE: none at first", "tree -1\nline -1 = 0\nline 0 = NOT\nask 0 0 5 = 1\nline -1 = 0");
        E.edge("Terms: THE LINE: of each OWNER one at most; all six", """
            tree -1 -1
            ask 0 0 5 = 1
            ask 1 1 5 = 1
            ask 0 1 2 = 0
            ask 1 0 2 = 0
            ask 5 0 2 = 0
            ask 2 0 2 = 0
            ask 4 1 4 = 0
            ask 3 1 2 = 0
            line -1 = 6
            line 0 = 0
            line 1 = 1
            line 2 = 5
            line 3 = 2
            line 4 = 4
            line 5 = 3
            line 6 = NOT
            """ + Edges.each("ask ? 0 2 = STATE", "0", "1", "2", "3", "4", "5"));
        E.edge("Terms: THE LINE: as they came, behind one that left", """
            tree -1
            ask 0 0 5 = 1
            ask 3 0 5 = 0
            ask 1 0 5 = 0
            ask 2 0 5 = 0
            forgets 1 = 0
            line 0 = 3
            line 1 = 2
            line 2 = NOT
            ask 1 0 5 = 0
            line 2 = 1
            forgets 3 = 0
            line 0 = 2
            line 1 = 1
            forgets 1 = 0
            line 0 = 2
            line -1 = 1
            """);
    }

    private static void behind() {
        E.edge("Terms: BEHIND: at the same THING, not at its WHOLE or PART", """
            tree -1 0 1
            ask 0 1 2 = 1
            ask 1 1 5 = 0
            ask 2 0 4 = 1
            ask 3 2 2 = 1
            ask 4 1 2 = 0
            waitsFor 4 = 2
            """);
        E.edge("Terms: BEHIND: in a MODE that does not go together: SHARES and UPDATES do", """
            tree -1
            ask 0 0 4 = 1
            ask 1 0 4 = 0
            ask 2 0 2 = 1
            ask 3 0 4 = 0
            waitsFor 3 = 3
            """);
        E.edge("Terms: BEHIND: in a MODE that does not go together: SHARES and SHARES do", """
            tree -1
            ask 0 0 5 = 1
            ask 1 0 2 = 0
            ask 2 0 2 = 0
            ask 3 0 4 = 0
            waitsFor 2 = 1
            waitsFor 3 = 1
            """);
        E.edge("Terms: BEHIND: OWNS goes with none", """
            tree -1
            ask 0 0 5 = 1
            ask 1 0 2 = 0
            ask 2 0 4 = 0
            ask 3 0 5 = 0
            ask 4 0 5 = 0
            ask 5 0 2 = 0
            waitsFor 3 = 7
            waitsFor 4 = 15
            waitsFor 5 = 25
            """);
        E.edge("Terms: BEHIND: only of one that stands ahead", """
            tree -1
            ask 0 0 5 = 1
            ask 1 0 2 = 0
            ask 2 0 5 = 0
            waitsFor 1 = 1
            waitsFor 2 = 3
            """);
        E.edge("Terms: BEHIND: of one that is not in THE LINE all stand ahead", """
            tree -1
            ask 0 0 2 = 1
            ask 1 0 5 = 0
            ask 2 0 2 = 0
            needs 3 0 5 = 7
            needs 3 0 2 = 2
            needs 0 0 2 = 0
            """);
        E.edge("Read: a RAISE that stands ahead in THE LINE counts for BEHIND", """
            tree -1
            ask 0 0 2 = 1
            ask 1 0 2 = 1
            ask 0 0 5 = 0
            ask 2 0 2 = 0
            waitsFor 2 = 1
            """);
    }

    private static void serving() {
        E.edge("Terms: SERVING: as long as there is one that CAN BE: five", """
            tree -1
            ask 0 0 5 = 1
            ask 1 0 2 = 0
            ask 2 0 2 = 0
            ask 3 0 4 = 0
            ask 4 0 2 = 0
            ask 5 0 2 = 0
            give 0 0 5 = 5
            line -1 = 0
            holders 0 0 = 62
            """);
        E.edge("Terms: SERVING: none that CAN BE", """
            tree -1
            ask 0 0 2 = 1
            ask 1 0 2 = 1
            ask 2 0 5 = 0
            give 0 0 2 = 0
            line -1 = 1
            give 1 0 2 = 1
            """);
        E.edge("Terms: SERVING: the first RAISE ahead of the first", """
            tree -1 0
            ask 0 1 2 = 1
            ask 1 0 4 = 1
            ask 2 0 4 = 0
            ask 0 1 5 = 0
            line 0 = 2
            leaves 1 = 1
            held 0 1 5 = 1
            line 0 = 2
            waitsFor 2 = 1
            """);
        E.edge("Terms: SERVING: without a RAISE the first: the PART", """
            tree -1 0
            ask 0 0 5 = 1
            ask 2 1 5 = 0
            ask 1 0 5 = 0
            leaves 0 = 1
            held 2 1 5 = 1
            waitsFor 1 = 4
            """);
        E.edge("Terms: SERVING: without a RAISE the first: the WHOLE", """
            tree -1 0
            ask 0 0 5 = 1
            ask 1 0 5 = 0
            ask 2 1 5 = 0
            leaves 0 = 1
            held 1 0 5 = 1
            waitsFor 2 = 2
            """);
        E.edge("Terms: SERVING: without a RAISE the first: OWNER 0, then others", """
            tree -1 0
            ask 5 0 5 = 1
            ask 0 1 5 = 0
            ask 1 0 5 = 0
            ask 2 0 2 = 0
            leaves 5 = 1
            held 0 1 5 = 1
            waitsFor 1 = 1
            waitsFor 2 = 3
            """);
        E.edge("Terms: SERVING passes over one that can not be", """
            tree -1 -1
            ask 0 0 5 = 1
            ask 1 1 5 = 1
            ask 2 0 5 = 0
            ask 3 1 5 = 0
            ask 4 0 2 = 0
            give 1 1 5 = 1
            line 0 = 2
            line 1 = 4
            held 3 1 5 = 1
            """);
        E.edge("Terms: SERVING: GRANTED as any: COUNTS at the WHOLES", """
            tree -1 0
            ask 0 1 5 = 1
            ask 1 1 4 = 0
            give 0 1 5 = 1
            held 1 1 4 = 1
            held 1 0 3 = 1
            count 2 = 2
            """);
        E.edge("Said once more: an ASK that is GRANTED at once serves nobody else", """
            tree -1 0
            ask 0 0 5 = 1
            ask 1 1 2 = 0
            ask 0 1 2 = 1
            line -1 = 1
            count 6 = 2
            """);
    }

    private static void givingUp() {
        E.edge("Terms: GIVING UP: COUNTS of all that is taken are 1 less", """
            tree -1 0
            2 x ask 0 1 2 = 1
            ask 0 1 4 = 1
            ask 0 1 5 = 1
            give 0 1 2 = 0
            held 0 1 2 = 1
            held 0 0 1 = 1
            held 0 0 3 = 2
            give 0 1 5 = 0
            held 0 1 5 = 0
            held 0 0 3 = 1
            give 0 1 2 = 0
            held 0 0 1 = 0
            give 0 1 4 = 0
            count 2 = 0
            """);
        E.edge("Terms: COUNT 0: there is no HOLD", """
            tree -1 0
            2 x ask 0 1 5 = 1
            ask 1 0 2 = 0
            give 0 1 5 = 0
            holders 0 0 = 1
            give 0 1 5 = 1
            holders 0 0 = 2
            holders 1 0 = 0
            would 2 1 2 = 1
            """);
        E.edge("Terms: GIVING UP of an OWNER that is in THE LINE: its ASK stays there", """
            tree -1 -1
            ask 0 0 5 = 1
            ask 1 1 5 = 1
            ask 0 1 5 = 0
            give 0 0 5 = 0
            line 0 = 0
            waits 0 = 150
            """);
        E.edge("Terms: GIVING UP, then SERVING: one that shares still", """
            tree -1
            ask 0 0 2 = 1
            ask 1 0 2 = 1
            ask 2 0 5 = 0
            ask 1 0 5 = 0
            give 0 0 2 = 1
            held 1 0 5 = 1
            held 1 0 2 = 1
            """);
        E.edge("Terms: all GIVING UP: its ASK leaves THE LINE, its HOLDS are gone; then SERVING", """
            tree -1 -1 0
            2 x ask 0 0 5 = 1
            ask 0 2 4 = 1
            ask 1 1 2 = 1
            ask 0 1 5 = 0
            ask 2 1 2 = 0
            ask 3 0 2 = 0
            leaves 0 = 2
            waits 0 = NOT
            thingOf 2 4 = 0
            holders 0 0 = 8
            holders 1 0 = 6
            """);
    }

    private static void waitingForAndRings() {
        E.edge("Terms: one WAITS FOR another: not one that is not in THE LINE", """
            tree -1
            ask 0 0 5 = 1
            waitsFor 0 = 0
            waitsFor 1 = 0
            ask 1 0 5 = 0
            waitsFor 0 = 0
            waitsFor 1 = 1
            """);
        E.edge("Terms: one WAITS FOR another: five of them", """
            tree -1
            ask 1 0 2 = 1
            ask 2 0 2 = 1
            ask 3 0 4 = 1
            ask 4 0 2 = 1
            ask 5 0 5 = 0
            ask 0 0 5 = 0
            waitsFor 5 = 30
            waitsFor 0 = 62
            """);
        E.edge("Terms: RING: a row of waiters is none", """
            tree -1 -1 -1
            ask 0 0 5 = 1
            ask 1 1 5 = 1
            ask 2 2 5 = 1
            ask 0 1 5 = 0
            ask 1 2 5 = 0
            ring 0 = 0
            """);
        E.edge("Terms: RING: of two; who waits for it is not of it", """
            tree -1 -1
            ask 0 0 5 = 1
            ask 1 1 5 = 1
            ask 0 1 5 = 0
            ask 1 0 5 = 0
            ask 2 0 5 = 0
            waitsFor 2 = 3
            ring 0 = 3
            """);
        E.edge("Terms: RING: of two; for whom it waits is not of it", """
            tree -1 -1
            ask 0 0 2 = 1
            ask 2 0 2 = 1
            ask 1 1 5 = 1
            ask 0 1 5 = 0
            ask 1 0 5 = 0
            waitsFor 1 = 5
            ring 0 = 3
            """);
        E.edge("Terms: RING: of all six", """
            tree -1 -1 -1 -1 -1 -1
            ask 0 0 5 = 1
            ask 1 1 5 = 1
            ask 2 2 5 = 1
            ask 3 3 5 = 1
            ask 4 4 5 = 1
            ask 5 5 5 = 1
            ask 0 3 2 = 0
            ask 3 1 2 = 0
            ask 1 4 2 = 0
            ask 4 2 2 = 0
            ask 2 5 2 = 0
            ring 0 = 0
            ask 5 0 2 = 0
            ring 0 = 63
            ring 1 = 5
            ring 2 = 1
            breaks = 5
            ring 0 = 0
            """);
        E.edge("Terms: RING by BEHIND alone", """
            tree -1 -1
            ask 0 1 5 = 1
            ask 1 0 2 = 1
            ask 2 0 5 = 0
            ask 0 0 2 = 0
            waitsFor 0 = 4
            ask 1 1 2 = 0
            ring 0 = 7
            """);
        E.edge("Read: a RING has all OWNERS that are so, of several RINGS too", """
            tree -1 -1 -1 -1
            ask 0 0 5 = 1
            ask 5 1 5 = 1
            ask 2 2 5 = 1
            ask 3 3 5 = 1
            ask 0 1 5 = 0
            ask 5 0 5 = 0
            ask 2 3 5 = 0
            ring 0 = 33
            ask 3 2 5 = 0
            ring 0 = 45
            ask 4 3 5 = 0
            ring 0 = 45
            """);
    }

    private static void least() {
        E.edge("Terms: LEAST: of several the greatest number", """
            tree -1 -1 -1
            ask 4 0 5 = 1
            ask 1 1 5 = 1
            ask 3 2 5 = 1
            ask 4 1 2 = 0
            ask 1 2 2 = 0
            ask 3 0 2 = 0
            ring 0 = 26
            ring 1 = 4
            """);
        E.edge("Terms: LEAST: the fewest COUNTS, a COUNT of 2 is two", """
            tree -1 -1
            ask 0 0 5 = 1
            2 x ask 1 1 5 = 1
            ask 0 1 2 = 0
            ask 1 0 2 = 0
            ring 1 = 0
            ring 2 = 1
            """);
        for (int mode : new int[] {2, 4, 5}) {
            E.edge("Terms: LEAST: COUNTS (2, 4, 5 at all THINGS, together): " + mode, "tree -1 -1 -1\n"
                + "ask 0 0 5 = 1\nask 1 1 5 = 1\nask 1 2 " + mode + " = 1\nask 0 1 2 = 0\nask 1 0 2 = 0\n"
                + "ring 1 = 0\nring 2 = 1\nask 0 2 2 = STATE\nforgets 0 = 0\nask 0 0 5 = 1\nask 0 0 5 = 1\n"
                + "ask 0 1 5 = 0\nring 1 = 1\nring 2 = 2\n");
        }
        E.edge("Terms: LEAST: COUNTS by LOOKS and MEANS do not matter", """
            tree -1 0 1 -1 -1
            ask 1 2 5 = 1
            ask 1 2 2 = 1
            3 x ask 0 3 5 = 1
            ask 0 2 2 = 0
            ask 1 3 2 = 0
            thingOf 0 4 = 2
            ring 1 = 1
            ring 2 = 2
            """);
        E.edge("Terms: LEAST: COUNTS at all THINGS: of twelve, at the last one, too", CHAIN + """
            ask 0 11 5 = 1
            ask 0 11 4 = 1
            ask 1 11 2 = 0
            leaves 0 = 1
            leaves 1 = 0
            ask 0 11 2 = 1
            ask 1 11 2 = 1
            ask 1 10 2 = 1
            ask 0 11 5 = 0
            ask 1 10 5 = 0
            ring 0 = 3
            ring 1 = 0
            ring 2 = 1
            breaks = 0
            held 1 10 5 = 1
            """);
        E.edge("Terms: LEAST: one with none", """
            tree -1 -1
            ask 0 1 5 = 1
            ask 1 0 2 = 1
            ask 2 0 5 = 0
            ask 0 0 2 = 0
            ask 1 1 2 = 0
            ring 0 = 7
            ring 1 = 2
            ring 2 = 0
            """);
    }

    private static void thing() {
        E.edge("2: BAD: a WHOLE that did not come ahead (NONE -1)", """
            thing 0 0 = BAD
            thing -2 0 = BAD
            thing MIN 0 = BAD
            thing -1 0 = 0
            thing 1 0 = BAD
            thing 0 0 = 1
            thing 2 0 = BAD
            thing 12 0 = BAD
            thing MAX 0 = BAD
            thing 1 0 = 2
            count 0 = 3
            """);
        E.edge("2: BAD: neither with a GATE (0) nor BARE (1)", """
            thing -1 2 = BAD
            thing -1 -1 = BAD
            thing -1 MIN = BAD
            thing -1 MAX = BAD
            thing -1 0 = 0
            thing -1 1 = 1
            thingOf 0 1 = 0
            thingOf 1 1 = 1
            """);
        E.edge("2: FULL: 12", CHAIN + """
            thing -1 0 = FULL
            thing 11 1 = FULL
            count 0 = 12
            """);
        E.edge("2: BAD ahead of FULL", CHAIN + """
            thing 12 0 = BAD
            thing -2 0 = BAD
            thing -1 2 = BAD
            thing -1 -1 = BAD
            """);
        E.edge("2: eleven are not FULL", "tree -1 0 0 0 0 0 0 0 0 0 0\nthing 10 1 = 11\nthing 10 1 = FULL");
        E.edge("2: a BARE one has HOLDS and PARTS as any", """
            thing -1 1 = 0
            thing 0 1 = 1
            ask 0 1 5 = 1
            held 0 0 3 = 1
            thingOf 0 3 = 2
            """);
    }

    private static void thingOf() {
        E.edge("3: 0 its WHOLE (-1)", "tree -1 0 1 -1\nthingOf 0 0 = -1\nthingOf 1 0 = 0\nthingOf 2 0 = 1\nthingOf 3 0 = -1");
        E.edge("3: 1 whether it is BARE", "tree -1b 0 1b\nthingOf 0 1 = 1\nthingOf 1 1 = 0\nthingOf 2 1 = 1");
        E.edge("3: 2 how many WHOLES: none, two", "tree -1 0 1 0\nthingOf 0 2 = 0\nthingOf 2 2 = 2\nthingOf 3 2 = 1");
        E.edge("3: 3 PARTS (bits): none, eleven", "tree -1 0 0 0 0 0 0 0 0 0 0 0\nthingOf 0 3 = 4094\nthingOf 11 3 = 0");
        E.edge("3: 4 COUNTS there of all, all MODES together: none, several", """
            tree -1 0
            thingOf 0 4 = 0
            ask 0 1 2 = 1
            ask 5 1 2 = 1
            ask 0 1 4 = 1
            thingOf 0 4 = 3
            thingOf 1 4 = 3
            ask 0 1 5 = 0
            thingOf 0 4 = 3
            leaves 5 = 1
            thingOf 0 4 = 3
            thingOf 1 4 = 3
            """);
        E.edge("3: 5 how many in THE LINE ask for it: none, six", """
            tree -1 0 0
            ask 0 1 2 = 1
            ask 1 2 4 = 1
            ask 0 0 5 = 0
            ask 1 0 5 = 0
            ask 2 0 5 = 0
            ask 3 0 4 = 0
            ask 4 0 5 = 0
            ask 5 0 5 = 0
            thingOf 0 5 = 6
            thingOf 1 5 = 0
            thingOf 2 5 = 0
            leaves 1 = 1    # 0 is served
            thingOf 0 5 = 4
            """);
        E.edge("3: 5 who asks for a PART does not ask for it", """
            tree -1 0
            ask 0 0 5 = 1
            ask 1 1 2 = 0
            thingOf 0 5 = 0
            thingOf 1 5 = 1
            """);
        E.edge("3: BAD", "tree -1 0\n" + Edges.each("thingOf ? 0 = BAD", "MIN", "-1", "2", "12", "MAX")
            + Edges.each("thingOf 1 ? = BAD", "MIN", "-1", "6", "MAX"));
    }

    private static void ask() {
        E.edge("4: BAD: OWNERS 0 .. 5", "tree -1\n" + Edges.each("ask ? 0 2 = BAD", NO_OWNERS)
            + Edges.each("ask ? 0 2 = 1", "0", "5"));
        E.edge("4: BAD: no such THING", "tree -1 0\n" + Edges.each("ask 0 ? 2 = BAD", "MIN", "-1", "2", "12", "MAX")
            + Edges.each("ask 0 ? 2 = 1", "0", "1"));
        E.edge("4: BAD: an ASK: a MODE (2, 4, 5)", "tree -1\n" + Edges.each("ask 0 0 ? = BAD", NOT_ASKED_MODES)
            + Edges.each("ask 0 0 ? = 1", "2", "4", "5"));
        E.edge("4: 0 it waits (the last of THE LINE)", """
            tree -1 -1
            ask 5 0 5 = 1
            ask 3 0 2 = 0
            line 0 = 3
            ask 0 0 2 = 0
            line 0 = 3
            line 1 = 0
            held 0 0 2 = 0
            """);
        E.edge("4: STATE: its OWNER is in THE LINE, though it could be", """
            tree -1 -1
            ask 0 0 5 = 1
            ask 1 0 2 = 0
            ask 1 1 2 = STATE
            ask 1 0 2 = STATE
            held 1 1 2 = 0
            forgets 1 = 0
            ask 1 1 2 = 1
            """);
        E.edge("4: BAD ahead of STATE", """
            tree -1
            ask 0 0 5 = 1
            ask 1 0 2 = 0
            ask 1 1 2 = BAD
            ask 1 0 3 = BAD
            ask 1 -1 2 = BAD
            """);
    }

    private static void askNot() {
        String line = "tree -1 -1\nask 0 0 2 = 1\nask 1 0 2 = 1\nask 2 0 2 = 1\nask 0 0 5 = 0\n";
        E.edge("4: NOT: a RAISE that can not be, and another OWNER's RAISE at that THING is in THE LINE", line + """
            ask 1 0 5 = NOT
            line -1 = 1
            waits 1 = NOT
            """);
        E.edge("4: not NOT: a RAISE that can be", line + "ask 1 0 2 = 1\nask 1 0 4 = 1\n");
        E.edge("4: not NOT: it is no RAISE", line + "ask 3 0 5 = 0\nask 4 0 2 = 0\n");
        E.edge("4: not NOT: the other's RAISE is at another THING", line + """
            ask 1 1 2 = 1
            ask 2 1 2 = 1
            ask 1 1 5 = 0
            line -1 = 2
            waits 1 = 151
            """);
        E.edge("4: not NOT: the other's ASK there is no RAISE", """
            tree -1
            ask 0 0 2 = 1
            ask 1 0 2 = 1
            ask 2 0 5 = 0
            ask 0 0 5 = 0
            waits 0 = 51
            """);
        E.edge("4: not NOT: the other's RAISE is none any more", line + """
            give 0 0 2 = 0
            ask 1 0 5 = 0
            waits 0 = 50
            waits 1 = 51
            """);
        E.edge("4: not NOT: the other's RAISE is not in THE LINE any more", line + """
            forgets 0 = 0
            ask 1 0 5 = 0
            """);
        E.edge("4: STATE ahead of NOT", line + "ask 3 0 5 = 0\nask 0 0 5 = STATE\nask 3 0 5 = STATE\n");
        E.edge("4: BAD ahead of NOT", line + "ask 1 0 6 = BAD\n");
    }

    private static void give() {
        E.edge("5: BAD: OWNERS 0 .. 5", "tree -1\nask 0 0 2 = 1\nask 5 0 2 = 1\n"
            + Edges.each("give ? 0 2 = BAD", NO_OWNERS) + Edges.each("give ? 0 2 = 0", "0", "5"));
        E.edge("5: BAD: no such THING", "tree -1 0\nask 0 0 2 = 1\n"
            + Edges.each("give 0 ? 2 = BAD", "MIN", "-1", "2", "12", "MAX"));
        E.edge("5: BAD: a MODE (2, 4, 5), though it is held", "tree -1 0\nask 0 1 2 = 1\nask 0 1 4 = 1\n"
            + Edges.each("give 0 0 ? = BAD", NOT_ASKED_MODES));
        E.edge("5: STATE: that COUNT is 0", """
            tree -1 0 0
            give 0 0 2 = STATE
            ask 0 1 2 = 1
            give 0 1 4 = STATE
            give 0 1 5 = STATE
            give 0 0 2 = STATE
            give 0 2 2 = STATE
            give 1 1 2 = STATE
            give 0 1 2 = 0
            give 0 1 2 = STATE
            """);
        E.edge("5: how many were served: 0, 2", """
            tree -1
            2 x ask 0 0 5 = 1
            ask 1 0 2 = 0
            ask 2 0 2 = 0
            ask 3 0 5 = 0
            give 0 0 5 = 0
            give 0 0 5 = 2
            line 0 = 3
            """);
    }

    private static void leavesAndForgets() {
        E.edge("6: BAD", "tree -1\nask 5 0 5 = 1\n" + Edges.each("leaves ? = BAD", NO_OWNERS) + "leaves 5 = 0\ncount 2 = 0\n");
        E.edge("6: an OWNER with nothing leaves", "tree -1\nask 1 0 5 = 1\nask 2 0 5 = 0\nleaves 0 = 0\nleaves 0 = 0\nline -1 = 1\n");
        E.edge("6: an OWNER that waits alone leaves: who was BEHIND it is served", """
            tree -1
            ask 0 0 2 = 1
            ask 1 0 5 = 0
            ask 2 0 2 = 0
            leaves 1 = 1
            line -1 = 0
            held 2 0 2 = 1
            """);
        E.edge("6: how many were served: five", """
            tree -1
            ask 5 0 5 = 1
            ask 0 0 2 = 0
            ask 1 0 2 = 0
            ask 2 0 2 = 0
            ask 3 0 2 = 0
            ask 4 0 2 = 0
            leaves 5 = 5
            count 6 = 6
            """);
        E.edge("7: BAD", "tree -1\nask 0 0 5 = 1\nask 5 0 5 = 0\n" + Edges.each("forgets ? = BAD", NO_OWNERS) + "forgets 5 = 0\n");
        E.edge("7: STATE: it is not in it", """
            tree -1
            forgets 0 = STATE
            ask 0 0 5 = 1
            forgets 0 = STATE
            ask 1 0 5 = 0
            forgets 2 = STATE
            forgets 1 = 0
            forgets 1 = STATE
            """);
        E.edge("7: its HOLDS stay", """
            tree -1 -1
            ask 0 0 5 = 1
            ask 1 1 5 = 1
            ask 1 0 5 = 0
            forgets 1 = 0
            held 1 1 5 = 1
            count 2 = 2
            """);
        E.edge("7: then SERVING: how many were served", """
            tree -1
            ask 0 0 2 = 1
            ask 1 0 5 = 0
            ask 2 0 2 = 0
            ask 3 0 2 = 0
            forgets 2 = 0
            forgets 1 = 1
            line -1 = 0
            held 3 0 2 = 1
            """);
    }

    private static void breaks() {
        E.edge("8: NOT: there is no RING", """
            tree -1 -1
            breaks = NOT
            ask 0 0 5 = 1
            ask 1 0 5 = 0
            breaks = NOT
            line -1 = 1
            """);
        E.edge("8: LEAST does all GIVING UP: which one; two RINGS, one after the other", """
            tree -1 -1 -1 -1 -1
            ask 0 0 5 = 1
            ask 1 1 5 = 1
            ask 2 2 5 = 1
            ask 3 3 5 = 1
            ask 0 4 5 = 1
            ask 3 3 5 = 1
            ask 0 1 5 = 0
            ask 1 0 5 = 0
            ask 2 3 5 = 0
            ask 3 2 5 = 0
            ring 0 = 15
            breaks = 2
            waits 2 = NOT
            holders 2 0 = 8
            ring 0 = 3
            breaks = 1
            held 0 1 5 = 1
            breaks = NOT
            line -1 = 0
            """);
        E.edge("8: OWNER 0 may be the LEAST", """
            tree -1 -1
            ask 0 0 5 = 1
            2 x ask 1 1 5 = 1
            ask 0 1 5 = 0
            ask 1 0 5 = 0
            breaks = 0
            held 1 0 5 = 1
            """);
    }

    private static void heldAndHolders() {
        E.edge("9: BAD", "tree -1 0\n" + Edges.each("held ? 0 1 = BAD", NO_OWNERS)
            + Edges.each("held 0 ? 1 = BAD", "MIN", "-1", "2", "12", "MAX") + Edges.each("held 0 0 ? = BAD", "MIN", "-1", "0", "6", "MAX"));
        E.edge("9: in a MODE (1 .. 5): none, each", """
            tree -1 0
            held 5 0 1 = 0
            held 5 0 5 = 0
            ask 5 1 2 = 1
            2 x ask 5 1 4 = 1
            3 x ask 5 0 2 = 1
            4 x ask 5 0 4 = 1
            5 x ask 5 0 5 = 1
            held 5 0 1 = 1
            held 5 0 2 = 3
            held 5 0 3 = 2
            held 5 0 4 = 4
            held 5 0 5 = 5
            held 4 0 5 = 0
            """);
        E.edge("10: BAD", "tree -1 0\n" + Edges.each("holders ? 0 = BAD", "MIN", "-1", "2", "12", "MAX")
            + Edges.each("holders 0 ? = BAD", "MIN", "-1", "6", "MAX"));
        E.edge("10: OWNERS (bits): none, all six", "tree -1 0\nholders 0 0 = 0\nholders 1 2 = 0\n"
            + Edges.each("ask ? 1 2 = 1", "0", "1", "2", "3", "4", "5")
            + "holders 1 2 = 63\nholders 1 0 = 63\nholders 0 1 = 63\nholders 0 0 = 63\nholders 0 2 = 0\n");
        E.edge("10: a MODE (0: in any), each alone", """
            tree -1 0 -1
            ask 0 1 2 = 1
            ask 1 1 4 = 1
            ask 5 2 5 = 1
            ask 2 2 2 = 0
            holders 0 1 = 1
            holders 0 3 = 2
            holders 0 0 = 3
            holders 1 2 = 1
            holders 1 4 = 2
            holders 1 0 = 3
            holders 2 5 = 32
            holders 2 0 = 32
            """);
    }

    private static void holdersInMoreModes() {
        E.edge("10: an OWNER with HOLDS in more than one MODE is one bit", """
            tree -1 0
            ask 2 1 2 = 1
            ask 2 1 4 = 1
            ask 2 0 4 = 1
            ask 2 0 5 = 1
            holders 0 0 = 4
            holders 1 0 = 4
            give 2 1 4 = 0
            holders 1 0 = 4
            holders 0 3 = 0
            holders 0 1 = 4
            give 2 1 2 = 0
            holders 1 0 = 0
            holders 0 1 = 0
            holders 0 0 = 4
            """);
    }

    private static void waitsAndLine() {
        E.edge("11: BAD", "tree -1\n" + Edges.each("waits ? = BAD", NO_OWNERS));
        E.edge("11: NOT: none", """
            tree -1
            waits 5 = NOT
            ask 0 0 5 = 1
            waits 0 = NOT
            ask 1 0 2 = 0
            waits 1 = 20
            leaves 0 = 1
            waits 1 = NOT
            """);
        E.edge("11: 100 times the THING, 10 times the MODE, and 1 if it is a RAISE: the greatest", CHAIN + """
            ask 0 11 2 = 1
            ask 1 11 2 = 1
            ask 0 11 5 = 0
            waits 0 = 1151
            ask 2 11 4 = 0
            waits 2 = 1140
            """);
        E.edge("12: BAD: below -1", "tree -1\nline -2 = BAD\nline MIN = BAD\nline -1 = 0\n");
        E.edge("12: NOT: no such place", """
            tree -1
            line 0 = NOT
            ask 0 0 5 = 1
            ask 4 0 5 = 0
            line 0 = 4
            line 1 = NOT
            line 6 = NOT
            line MAX = NOT
            """);
    }

    private static void waitsForAndRing() {
        E.edge("13: BAD", "tree -1\n" + Edges.each("waitsFor ? = BAD", NO_OWNERS));
        E.edge("13: none of an OWNER that is not in THE LINE", "tree -1\nask 0 0 5 = 1\nwaitsFor 0 = 0\nwaitsFor 5 = 0\n");
        E.edge("14: BAD", "tree -1\n" + Edges.each("ring ? = BAD", "MIN", "-1", "3", "MAX"));
        E.edge("14: NOT: none", "tree -1\nask 0 0 5 = 1\nask 1 0 5 = 0\nring 0 = 0\nring 1 = NOT\nring 2 = NOT\nring 3 = BAD\n");
        E.edge("14: all GIVING UP, or forgetting, ends it", """
            tree -1 -1
            ask 0 0 5 = 1
            ask 1 1 5 = 1
            ask 0 1 5 = 0
            ask 1 0 5 = 0
            ring 0 = 3
            forgets 1 = 0
            ring 0 = 0
            ask 1 0 5 = 0
            ring 0 = 3
            give 1 1 5 = 1
            ring 0 = 0
            """);
    }

    private static void count() {
        E.edge("15: BAD", Edges.each("count ? = BAD", "MIN", "-1", "7", "MAX"));
        E.edge("15: 0 THINGS: up to 12", "count 0 = 0\n" + CHAIN + "count 0 = 12\nthing -1 0 = FULL\ncount 0 = 12\n");
        E.edge("15: 1 in THE LINE", "tree -1\nask 0 0 5 = 1\ncount 1 = 0\nask 1 0 5 = 0\ncount 1 = 1\nask 1 0 5 = STATE\ncount 1 = 1\n");
        E.edge("15: 2 COUNTS of all, all MODES together", CHAIN + """
            ask 0 11 2 = 1
            count 2 = 12
            ask 0 11 5 = 1
            count 2 = 24
            ask 5 10 2 = 0
            count 2 = 24
            leaves 0 = 1
            count 2 = 11
            """);
        E.edge("15: 3 rows of the PLAN", "tree -1\n12 x plan 5 0 2\ncount 3 = 12\nplan 5 0 2 = FULL\ncount 3 = 12\nplan -1 0 0 = 0\ncount 3 = 0\n");
        E.edge("15: 4 bytes on THE TAPE", "120 x feed 43\ncount 4 = 120\nfeed 43 = FULL\nfeed 0 = BAD\ncount 4 = 120\nreads = -1001\ncount 4 = 0\n");
        E.edge("15: 5 of THE PAPER: as it was spelled last", """
            tree -1
            ask 0 0 2 = 1
            count 5 = 0
            spells = 5
            count 5 = 5
            leaves 0 = 0
            count 5 = 5
            spells = 0
            count 5 = 0
            """);
    }

    private static void countOfGranted() {
        E.edge("An object is used for at most 512 calls: the last of them", "thing -1 0 = 0\n"
            + Edges.each("ask ? 0 5 = 1\ngive ? 0 5 = 0", "0", "1", "2", "3", "4").repeat(51) + "ask 5 0 5 = 1\n");
        E.edge("15: 6 ASKS GRANTED in truth: served ones, too", """
            tree -1
            ask 0 0 5 = 1
            count 6 = 1
            ask 1 0 2 = 0
            ask 2 0 2 = 0
            count 6 = 1
            give 0 0 5 = 2
            count 6 = 3
            leaves 1 = 0
            give 2 0 2 = 0
            count 6 = 3
            """);
        E.edge("15: 6 served by forgets() and breaks(), too", """
            tree -1 -1
            ask 0 0 2 = 1
            ask 1 0 5 = 0
            ask 2 0 2 = 0
            forgets 1 = 1
            count 6 = 2
            ask 1 1 5 = 1
            ask 0 1 5 = 0
            ask 1 0 5 = 0
            breaks = 1
            count 6 = 4
            """);
        E.edge("15: 6 by does() and reads(), too", """
            tree -1
            fill 0 0 0 2 1 0 2
            does 0 0 = 2
            count 6 = 2
            reads 'gs0 0;s0 0;o2 0;s3 0' = 4
            count 6 = 3
            """);
        E.edge("15: 6 not what is in thought, or refused", """
            tree -1
            ask 0 0 2 = 1
            plan 0 0 2 = 1
            would 1 0 2 = 1
            needs 1 0 2 = 0
            strongest 1 0 = 4
            plays 2 = 1
            lots 60 1 0
            ask 0 0 3 = BAD
            count 6 = 1
            """);
        E.edge("15: 6 back() does not change that", """
            tree -1
            image = 1
            ask 0 0 2 = 1
            ask 1 0 2 = 1
            back = 1
            count 2 = 0
            count 6 = 2
            ask 0 0 2 = 1
            count 6 = 3
            image = 1
            back = 1
            count 6 = 3
            """);
    }
}
