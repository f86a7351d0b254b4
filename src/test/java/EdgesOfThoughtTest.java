/** The sentences of part 2 ("In thought") and of promises 16 to 21 that name an edge. */
public final class EdgesOfThoughtTest {
    private static final Edges E = new Edges("EdgesOfThoughtTest");
    private static final String[] NO_OWNERS = {"MIN", "-1", "6", "7", "MAX"};
    private static final String[] NO_THINGS = {"MIN", "-1", "2", "12", "MAX"};
    private static final String[] NOT_ASKED_MODES = {"MIN", "-1", "0", "1", "3", "6", "MAX"};

    public static void main(String[] args) {
        would();
        wouldRefused();
        needs();
        needsRefused();
        strongest();
        plan();
        playsFew();
        playsOrder();
        playsFortyOne();
        playsAnew();
        playsLeast();
        lotsRefused();
        lotsDraws();
        lotsLine();
        if (E.end() != 0) System.exit(1);
    }

    private static void would() {
        E.edge("WOULD: 1 it CAN BE", """
            tree -1 0
            would 0 1 5 = 1
            ask 0 1 5 = 1
            would 0 1 5 = 1
            would 0 0 2 = 1
            held 0 1 5 = 1
            """);
        E.edge("WOULD: 0 it would wait, barred", "tree -1\nask 0 0 4 = 1\nwould 1 0 4 = 0\nwould 1 0 2 = 1\nline -1 = 0\n");
        E.edge("WOULD: 0 it would wait, BEHIND alone; a RAISE is not BEHIND", """
            tree -1
            ask 0 0 2 = 1
            ask 1 0 5 = 0
            would 2 0 2 = 0
            would 0 0 2 = 1
            would 0 0 5 = 1
            """);
        E.edge("WOULD: 2 its OWNER would be of the RING: of two", """
            tree -1 -1
            ask 0 0 5 = 1
            ask 1 1 5 = 1
            ask 0 1 2 = 0
            would 1 0 2 = 2
            would 1 1 2 = 1
            ring 0 = 0
            """);
        E.edge("WOULD: 2 its OWNER would be of the RING: of all six", """
            tree -1 -1 -1 -1 -1 -1
            ask 0 0 5 = 1
            ask 1 1 5 = 1
            ask 2 2 5 = 1
            ask 3 3 5 = 1
            ask 4 4 5 = 1
            ask 5 5 5 = 1
            ask 5 0 5 = 0
            ask 0 1 5 = 0
            ask 1 2 5 = 0
            ask 2 3 5 = 0
            ask 3 4 5 = 0
            would 4 5 5 = 2
            would 4 4 5 = 1
            """);
        E.edge("WOULD: 2 by BEHIND alone", """
            tree -1 -1
            ask 0 1 5 = 1
            ask 1 0 2 = 1
            ask 2 0 5 = 0
            ask 1 1 2 = 0
            would 0 0 2 = 2
            """);
        E.edge("WOULD: 0 where there is a RING without its OWNER", """
            tree -1 -1
            ask 0 0 5 = 1
            ask 1 1 5 = 1
            ask 0 1 2 = 0
            ask 1 0 2 = 0
            would 2 0 2 = 0
            would 2 1 5 = 0
            """);
        E.edge("Said once more: would(), 2, goes by CAN BE alone (ask()'s NOT does not matter)", """
            tree -1
            ask 0 0 2 = 1
            ask 1 0 2 = 1
            ask 0 0 5 = 0
            would 1 0 5 = 2
            ask 1 0 5 = NOT
            """);
        E.edge("Said once more: would(), needs(), strongest() go by CAN BE alone (ask()'s NOT does not matter)", """
            tree -1 0
            ask 0 1 2 = 1
            ask 1 1 2 = 1
            ask 2 0 2 = 1
            ask 0 1 4 = 0
            would 1 1 4 = 0
            needs 1 1 4 = 4
            strongest 1 1 = 2
            ask 1 1 4 = NOT
            would 1 1 5 = 0
            needs 1 1 5 = 5
            ask 1 1 5 = NOT
            """);
    }

    private static void wouldRefused() {
        E.edge("16: BAD", "tree -1 0\n" + Edges.each("would ? 0 2 = BAD", NO_OWNERS)
            + Edges.each("would 0 ? 2 = BAD", NO_THINGS) + Edges.each("would 0 0 ? = BAD", NOT_ASKED_MODES)
            + Edges.each("would 5 1 ? = 1", "2", "4", "5"));
        E.edge("16: STATE: its OWNER is in THE LINE", """
            tree -1 -1
            ask 0 0 5 = 1
            ask 1 0 2 = 0
            would 1 0 2 = STATE
            would 1 1 2 = STATE
            would 0 0 2 = 1
            """);
        E.edge("16: BAD ahead of STATE", "tree -1\nask 0 0 5 = 1\nask 1 0 2 = 0\nwould 1 1 2 = BAD\nwould 1 0 3 = BAD\n");
    }

    private static void needs() {
        E.edge("NEEDS: 0: it CAN BE", "tree -1\nneeds 0 0 5 = 0\nask 0 0 5 = 1\nneeds 0 0 5 = 0\nask 1 0 2 = 0\nneeds 0 0 2 = 0\n");
        E.edge("NEEDS: all five others", """
            tree -1
            ask 1 0 2 = 1
            ask 2 0 2 = 1
            ask 3 0 2 = 1
            ask 4 0 4 = 1
            ask 5 0 5 = 0
            needs 0 0 5 = 62
            needs 0 0 4 = 48
            needs 0 0 2 = 32
            """);
        E.edge("NEEDS: the fewest: who holds beside is not of them", """
            tree -1 0 0
            ask 0 1 2 = 1
            ask 1 2 5 = 1
            ask 3 1 2 = 1
            needs 2 0 2 = 2
            needs 2 0 5 = 11
            needs 2 1 5 = 9
            needs 2 1 2 = 0
            needs 0 1 5 = 8
            """);
        E.edge("NEEDS: other OWNERS: never itself", """
            tree -1 0
            ask 0 1 5 = 1
            ask 1 0 2 = 0
            needs 0 0 5 = 2
            needs 0 1 5 = 0
            """);
        E.edge("NEEDS: all GIVING UP (without SERVING)", """
            tree -1 0
            ask 0 0 5 = 1
            ask 1 1 5 = 0
            needs 2 0 2 = 1
            leaves 0 = 1
            needs 2 0 2 = 2
            """);
    }

    private static void needsRefused() {
        E.edge("17: BAD", "tree -1 0\n" + Edges.each("needs ? 0 2 = BAD", NO_OWNERS)
            + Edges.each("needs 0 ? 2 = BAD", NO_THINGS) + Edges.each("needs 0 0 ? = BAD", NOT_ASKED_MODES)
            + Edges.each("needs 5 1 ? = 0", "2", "4", "5"));
        E.edge("17: STATE: its OWNER is in THE LINE; BAD ahead", """
            tree -1 -1
            ask 0 0 5 = 1
            ask 1 0 2 = 0
            needs 1 0 2 = STATE
            needs 1 1 2 = STATE
            needs 1 2 2 = BAD
            needs 1 0 1 = BAD
            """);
    }

    private static void strongest() {
        E.edge("STRONGEST: the greatest MODE of 5, 4, 2: 5", "tree -1\nstrongest 0 0 = 5\nask 0 0 2 = 1\nstrongest 0 0 = 5\n");
        E.edge("STRONGEST: the greatest MODE of 5, 4, 2: 4", "tree -1\nask 0 0 2 = 1\nstrongest 1 0 = 4\n");
        E.edge("STRONGEST: the greatest MODE of 5, 4, 2: 2", "tree -1\nask 0 0 4 = 1\nstrongest 1 0 = 2\n");
        E.edge("STRONGEST: of a RAISE", "tree -1\nask 0 0 4 = 1\nask 1 0 2 = 1\nstrongest 0 0 = 4\nstrongest 1 0 = 2\n");
        E.edge("STRONGEST: BEHIND one in THE LINE", """
            tree -1
            ask 0 0 4 = 1
            ask 1 0 4 = 0
            strongest 2 0 = 2
            ask 3 0 5 = 0
            strongest 2 0 = NOT
            strongest 0 0 = 5
            """);
        E.edge("18: NOT: in none", "tree -1 0\nask 0 0 5 = 1\nstrongest 1 0 = NOT\nstrongest 1 1 = NOT\n");
        E.edge("18: BAD", "tree -1 0\n" + Edges.each("strongest ? 0 = BAD", NO_OWNERS) + Edges.each("strongest 0 ? = BAD", NO_THINGS));
        E.edge("18: STATE: the OWNER is in THE LINE, ahead of NOT; BAD ahead of it", """
            tree -1 -1
            ask 0 0 5 = 1
            ask 1 0 2 = 0
            strongest 1 0 = STATE
            strongest 1 1 = STATE
            strongest 1 2 = BAD
            """);
    }

    private static void plan() {
        E.edge("PLAN: none at first", "count 3 = 0\nplays 0 = 0\n");
        E.edge("19: FULL: 12", "tree -1 0\n" + Edges.each("plan 5 1 5 = ?", "1", "2", "3", "4", "5", "6", "7", "8", "9", "10",
            "11", "12", "FULL", "FULL") + "count 3 = 12\n");
        E.edge("19: FULL changes none of the rows", """
            tree -1 -1
            plan 0 0 5 = 1
            plan 1 0 5 = 2
            10 x plan 2 1 2
            plan 3 0 5 = FULL
            plan 0 1 2 = FULL
            plays 0 = 11
            plays 2 = 12
            ask 5 0 2 = 1
            plays 0 = 41    # 0 and 1 wait for 5
            plays 2 = 10
            """);
        E.edge("19: BAD ahead of FULL", "tree -1\n12 x plan 0 0 2\nplan 6 0 2 = BAD\nplan 0 1 2 = BAD\nplan 0 0 3 = BAD\n");
        E.edge("19: BAD", "tree -1 0\n" + Edges.each("plan ? 0 2 = BAD", "MIN", "-2", "6", "7", "MAX")
            + Edges.each("plan 0 ? 2 = BAD", NO_THINGS) + Edges.each("plan 0 0 ? = BAD", NOT_ASKED_MODES)
            + "count 3 = 0\nplan 0 0 2 = 1\nplan 0 0 4 = 2\nplan 5 1 5 = 3\n");
        E.edge("19: owner -1: none then, 0, whatever the others are", """
            plan -1 0 0 = 0
            tree -1
            12 x plan 0 0 2
            plan -1 MAX MIN = 0
            count 3 = 0
            plays 0 = 0
            plan 5 0 5 = 1
            plan -1 0 2 = 0
            count 3 = 0
            """);
        E.edge("19: a row asks for nothing yet: also of one in THE LINE", """
            tree -1
            ask 0 0 5 = 1
            ask 1 0 5 = 0
            plan 1 0 5 = 1
            plan 0 0 5 = 2
            line -1 = 1
            count 6 = 1
            """);
    }

    private static void playsFew() {
        E.edge("20: BAD", "tree -1\nplan 0 0 2 = 1\n" + Edges.each("plays ? = BAD", "MIN", "-1", "3", "MAX"));
        E.edge("20: 0: no rows: no ROUND, though there is a RING", """
            tree -1 -1
            ask 0 0 5 = 1
            ask 1 1 5 = 1
            ask 0 1 5 = 0
            ask 1 0 5 = 0
            plays 0 = 0
            plays 1 = 0
            plays 2 = 0
            """);
        E.edge("ROUNDS: one row: done, then all GIVING UP", "tree -1\nplan 3 0 5 = 1\nplays 0 = 2\nplays 1 = 0\nplays 2 = 1\ncount 2 = 0\n");
        E.edge("ROUNDS: twelve rows of one OWNER", "tree -1\n12 x plan 5 0 4\nplays 0 = 13\nplays 2 = 12\n");
        E.edge("ROUNDS: two rows of each OWNER", "tree -1\n"
            + Edges.each("plan ? 0 2", "5", "1", "0", "2", "4", "3") + Edges.each("plan ? 0 2", "0", "1", "2", "3", "4", "5")
            + "plays 0 = 3\nplays 1 = 0\nplays 2 = 12\n");
        E.edge("ROUNDS: from HOLDS, THE LINE as they are; all GIVING UP of what it held ahead of it", """
            tree -1 -1
            ask 0 0 5 = 1
            ask 1 0 2 = 0
            plan 0 1 2 = 1
            plays 0 = 2
            plays 2 = 2
            count 6 = 1
            held 0 0 5 = 1
            """);
        E.edge("ROUNDS: refused: that row is done", """
            tree -1 -1
            ask 0 0 2 = 1
            ask 1 0 2 = 1
            ask 0 0 5 = 0
            plan 1 0 5 = 1
            plan 1 1 2 = 2
            plays 0 = 3
            plays 1 = 0
            plays 2 = 2
            """);
        E.edge("Said once more: plays(2) counts GRANTED ASKS of all OWNERS in the ROUNDS", """
            tree -1
            ask 0 0 5 = 1
            ask 2 0 2 = 0
            ask 3 0 2 = 0
            ask 4 0 2 = 0
            plan 0 0 5 = 1
            plays 2 = 4
            plays 0 = 2
            """);
    }

    private static void playsOrder() {
        E.edge("ROUNDS: by numbers, not as the rows stand", """
            tree -1 -1
            ask 5 0 5 = 1
            plan 5 1 2 = 1
            plan 0 0 2 = 2
            plays 0 = 3     # 1: 0 waits, 5 has 1; 2: 5 is through, 0 is served; 3: 0 is through
            plays 2 = 2
            """);
        E.edge("ROUNDS: if it is not in THE LINE then: served in the ROUND by a lesser one, it goes on in it", """
            tree -1 -1
            ask 0 0 5 = 1
            plan 0 1 2 = 1
            plan 5 0 2 = 2
            plays 0 = 2
            plays 2 = 2
            """);
        E.edge("ROUNDS: one that is in THE LINE at first", """
            tree -1 -1
            ask 0 0 5 = 1
            ask 1 0 2 = 0
            plan 1 1 2 = 1
            plan 0 1 2 = 2
            plays 0 = 3     # 2: 0 is through, 1 is served and does its row
            plays 2 = 3
            """);
        E.edge("ROUNDS: its next row (by their order)", """
            tree -1 -1
            plan 0 0 5 = 1
            plan 1 0 5 = 2
            plan 0 1 5 = 3
            plan 1 1 5 = 4
            plays 0 = 4
            plays 1 = 0
            plays 2 = 4
            plan -1 0 0 = 0
            plan 0 1 5 = 1
            plan 1 0 5 = 2
            plan 0 0 5 = 3
            plan 1 1 5 = 4
            plays 0 = 3     # 2: both wait, 1 is the least, 0 is served; 3: both are through
            plays 1 = 1
            plays 2 = 3
            """);
        E.edge("ROUNDS: what is BAD for a PLAN did not come into it", """
            tree -1
            plan 0 1 2 = BAD
            plan 6 0 2 = BAD
            plan 1 0 2 = 1
            plays 0 = 2
            plays 2 = 1
            """);
    }

    private static void playsFortyOne() {
        E.edge("20: 41: not by 40: it waits for one without rows", """
            tree -1 -1
            ask 0 0 5 = 1
            plan 1 0 2 = 1
            plan 2 1 2 = 2
            plays 0 = 41
            plays 1 = 0
            plays 2 = 1
            """);
        E.edge("20: 41: it is in THE LINE from the first on", """
            tree -1 -1
            ask 0 0 5 = 1
            ask 1 0 2 = 0
            plan 1 1 2 = 1
            plays 0 = 41
            plays 2 = 0
            """);
        E.edge("20: 41: the LEAST ones of the ROUNDS are counted", """
            tree -1 -1 -1
            ask 0 0 5 = 1
            ask 1 1 5 = 1
            ask 0 1 5 = 0
            ask 1 0 5 = 0
            plan 2 0 5 = 1
            plays 0 = 41    # 1: 2 waits, 1 is the least, 0 is served; 2 waits on for 0
            plays 1 = 1
            plays 2 = 1
            """);
    }

    private static void playsAnew() {
        E.edge("20: no rows any more, behind one that was never THROUGH", """
            tree -1 -1
            ask 0 0 5 = 1
            plan 1 0 2 = 1
            plays 0 = 41
            plan -1 0 0 = 0
            plays 0 = 0
            plan 2 1 2 = 1
            plays 0 = 2
            plays 2 = 1
            """);
        E.edge("20: played again: each play is from HOLDS, THE LINE as they are", """
            tree -1
            2 x plan 0 0 5
            plays 0 = 3
            plays 0 = 3
            plays 2 = 2
            ask 1 0 5 = 1
            plays 0 = 41
            plays 2 = 0
            leaves 1 = 0
            plays 0 = 3
            plays 2 = 2
            """);
        E.edge("20: rows for THINGS that are gone are gone, too, behind back()", """
            tree -1
            image = 1
            thing 0 0 = 1
            plan 0 1 5 = 1
            back = 1
            count 3 = 0
            plays 0 = 0
            plan 0 1 5 = BAD
            """);
    }

    private static void playsLeast() {
        E.edge("ROUNDS: OWNER 0 may be the LEAST", """
            tree -1 -1
            2 x ask 1 1 5 = 1
            plan 0 0 5 = 1
            plan 0 1 5 = 2
            plan 1 0 5 = 3
            plays 0 = 3     # 1: 0 has 0, 1 waits; 2: 0 waits, 0 is the least, 1 is served; 3: both are through
            plays 1 = 1
            plays 2 = 2
            """);
        E.edge("Said once more: the LEAST may be one without rows; in each ROUND once, in the last one, too", """
            tree -1 -1 -1 -1 -1
            ask 0 0 5 = 1
            ask 1 1 5 = 1
            ask 2 2 5 = 1
            ask 3 3 5 = 1
            ask 0 1 5 = 0
            ask 1 0 5 = 0
            ask 2 3 5 = 0
            ask 3 2 5 = 0
            plan 5 4 5 = 1
            plays 0 = 2
            plays 1 = 2
            plays 2 = 3
            ring 0 = 15
            """);
        E.edge("ROUNDS: once in each ROUND, though there is one more RING", """
            tree -1 0 0 -1 -1 -1
            ask 0 1 2 = 1
            ask 1 3 5 = 1
            ask 2 4 5 = 1
            ask 3 5 5 = 1
            ask 0 3 5 = 0
            ask 1 0 5 = 0
            ask 2 5 5 = 0
            ask 3 4 5 = 0
            ring 0 = 15
            plan 5 2 2 = 1
            plan 5 3 2 = 2
            # 1: 5 has 2, 3 is the least; 2: 5 waits, and is the least; 3: 5 is through, 1 is the least
            plays 0 = 3
            plays 1 = 3
            plays 2 = 3
            """);
        E.edge("ROUNDS: behind all of them: the RING of this ROUND", """
            tree -1 -1
            ask 0 0 5 = 1
            ask 1 1 5 = 1
            plan 0 1 5 = 1
            plan 1 0 5 = 2
            plays 0 = 2     # 1: both wait, 1 is the least, 0 is served; 2: both are through
            plays 1 = 1
            plays 2 = 1
            """);
        E.edge("ROUNDS: the LEAST: what it asked last is done; its next rows go on", """
            tree -1 -1 -1
            plan 0 0 5 = 1
            plan 1 1 5 = 2
            plan 0 1 5 = 3
            plan 1 0 5 = 4
            plan 1 2 2 = 5
            plays 0 = 4     # 2: both wait, 1 is the least; 3: 0 is through, 1 has 2; 4: 1 is through
            plays 1 = 1
            plays 2 = 4
            """);
        E.edge("ROUNDS: the LEAST is THROUGH as others, when it has no rows left", """
            tree -1 -1 -1
            2 x ask 0 0 5 = 1
            ask 3 1 5 = 1
            plan 0 1 5 = 1
            plan 3 0 5 = 2
            plan 5 1 2 = 3
            plays 0 = 2     # 1: all wait, 3 is the least, 0 is served; 2: 0 is through, 5 is served
            plays 1 = 1
            plays 2 = 2
            """);
    }

    private static void lotsRefused() {
        E.edge("21: BAD: n (1 .. 60)", "tree -1\n" + Edges.each("lots ? 1 0 = BAD", "MIN", "-1", "0", "61", "MAX")
            + "lots 1 2 0 = 1\nask 4 0 5 = 1\nask 0 0 5 = 0\nask 1 0 5 = 0\nask 2 0 5 = 0\nask 3 0 5 = 0\nask 5 0 5 = 0\n"
            + "lots 60 -50 1 = 5\n");
        E.edge("21: BAD: what", "tree -1\n" + Edges.each("lots 1 1 ? = BAD", "MIN", "-1", "2", "MAX"));
        E.edge("21: STATE: there are no THINGS", "lots 1 0 0 = STATE\nlots 60 MIN 1 = STATE\ntree -1\nlots 1 0 0 = 1\nlots 1 MIN 1 = 0\n");
        E.edge("Said once more: lots(): BAD ahead of STATE", "lots 0 0 0 = BAD\nlots 61 0 0 = BAD\nlots 1 0 2 = BAD\nlots 1 0 -1 = BAD\n");
        E.edge("21: no THINGS any more behind back()", "image = 0\ntree -1\nlots 1 0 0 = 1\nback = 0\nlots 1 0 0 = STATE\n");
    }

    /** The draws below were worked out apart from Java. */
    private static void lotsDraws() {
        // seed, first draw below 6; of 2, 3, 7, -1, -2147483648, 77 the number drawn from is below 0
        int[][] owners = {{0, 0}, {1, 2}, {2, 2}, {3, 5}, {4, 5}, {5, 1}, {6, 2}, {7, 4}, {-1, 5}, {-2, 5},
            {Integer.MAX_VALUE, 5}, {Integer.MIN_VALUE, 0}, {77, 3}};
        for (int[] o : owners) {
            E.edge("LOT: an OWNER is a DRAW below 6, seed " + o[0], "tree -1\nask " + o[1] + " 0 5 = 1\n"
                + "lots 1 " + o[0] + " 0 = 1\nlots 1 " + o[0] + " 1 = 0\nleaves " + o[1] + " = 0\n"
                + "ask " + (o[1] + 1) % 6 + " 0 5 = 1\nlots 1 " + o[0] + " 0 = 0\nlots 1 " + o[0] + " 1 = 1\n");
        }
        // seed, owner, thing of 12, mode
        int[][] asks = {{0, 0, 0, 4}, {1, 2, 10, 2}, {2, 2, 5, 2}, {3, 5, 3, 2}, {5, 1, 9, 5}, {7, 4, 2, 5}, {-1, 5, 5, 4},
            {-7, 4, 1, 5}, {100, 2, 4, 4}, {-12345, 2, 0, 2}, {Integer.MAX_VALUE, 5, 5, 4}, {Integer.MIN_VALUE, 0, 0, 4},
            {Integer.MAX_VALUE - 1, 5, 6, 4}};
        for (int[] a : asks) lotsAsk(a[0], (a[1] + 1) % 6, a[2], a[3]);
    }

    private static void lotsAsk(int seed, int other, int thing, int mode) {
        String roots = "tree -1 -1 -1 -1 -1 -1 -1 -1 -1 -1 -1 -1\n";
        StringBuilder beside = new StringBuilder(roots);
        for (int t = 0; t < 12; t++) if (t != thing) beside.append("ask ").append(other).append(' ').append(t).append(" 5\n");
        E.edge("LOT: a THING, a DRAW below how many there are, seed " + seed, beside + "lots 1 " + seed + " 0 = 1\n"
            + "ask " + other + " " + thing + " 5 = 1\nlots 1 " + seed + " 0 = 0\n");
        E.edge("LOT: a MODE 2, 4, 5 by a DRAW below 3, seed " + seed, roots
            + "ask " + other + " " + thing + " 2 = 1\nlots 1 " + seed + " 0 = " + (mode == 5 ? 0 : 1) + "\n"
            + "ask " + other + " " + thing + " 4 = 1\nlots 1 " + seed + " 0 = " + (mode == 2 ? 1 : 0) + "\n");
    }

    private static void lotsLine() {
        E.edge("LOT: if it is in THE LINE, nothing more is drawn", """
            tree -1
            ask 4 0 5 = 1
            ask 0 0 2 = 0
            lots 1 28 0 = 0
            lots 2 28 0 = 1     # 0, who waits; then 4
            lots 2 28 1 = 1
            """);
        E.edge("LOT: n times, each counted: all but 4 wait", """
            tree -1
            ask 4 0 5 = 1
            ask 0 0 5 = 0
            ask 1 0 5 = 0
            ask 2 0 5 = 0
            ask 3 0 5 = 0
            ask 5 0 5 = 0
            lots 1 7 0 = 1
            lots 1 -5 0 = 0
            lots 10 -5 0 = 2
            lots 59 -50 0 = 7
            lots 60 -50 0 = 8
            lots 60 MIN 0 = 15
            lots 60 123456789 0 = 9
            lots 60 MIN 1 = 5
            """);
        E.edge("Said once more: lots(): refused ASKS count as nothing", """
            tree -1
            ask 0 0 2 = 1
            ask 1 0 2 = 1
            ask 2 0 2 = 1
            ask 0 0 5 = 0
            lots 1 5 0 = 0      # 1 would raise to own
            lots 1 5 1 = 1
            lots 1 42 0 = 0
            lots 1 42 1 = 1
            forgets 0 = 0
            lots 1 5 1 = 1
            """);
        E.edge("LOT: how many are in THE LINE at the end, those ahead of it, too; nothing is changed", """
            tree -1
            ask 4 0 5 = 1
            lots 60 7 1 = 5
            line -1 = 0
            ask 3 0 2 = 0
            lots 60 7 1 = 5
            line -1 = 1
            count 6 = 1
            """);
    }
}
