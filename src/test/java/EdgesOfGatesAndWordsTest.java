/** The sentences on GATES, WORDS, THE TAPE, THE PAPER, and of promises 22 to 29, that name an edge. */
public final class EdgesOfGatesAndWordsTest {
    private static final Edges E = new Edges("EdgesOfGatesAndWordsTest");
    private static final String CHAIN = "tree -1 0 1 2 3 4 5 6 7 8 9 10\n";
    private static final String[] NO_THINGS = {"MIN", "-1", "2", "12", "MAX"};

    public static void main(String[] args) {
        weighing();
        weighingBare();
        weighs();
        plunges();
        plungesRefused();
        bell();
        gate();
        feed();
        letters();
        wordsOf();
        wordsFault();
        wordsRefused();
        wordsNothingComes();
        wordsDone();
        tapeFull();
        spelled();
        paper();
        if (E.end() != 0) System.exit(1);
    }

    private static void weighing() {
        E.edge("GATES: ENTRIES, DEEPEST, INSIDE 0 at first", """
            tree -1 0
            ask 0 1 5 = 1
            gate 0 0 = 0
            gate 0 1 = 0
            gate 0 2 = 0
            gate 1 0 = 0
            gate 1 1 = 0
            """);
        E.edge("WEIGHING: without PARTS: its GATE is gone into once", """
            tree -1 0
            weighs 1 = 0
            gate 1 0 = 1
            gate 1 1 = 1
            gate 1 2 = 0
            gate 0 0 = 0
            """);
        E.edge("WEIGHING: in each PART once more into that of the THING that was asked for: twelve deep", CHAIN + """
            ask 0 11 5 = 1
            weighs 0 = 12
            gate 0 0 = 12
            gate 0 1 = 12
            gate 0 2 = 0
            gate 1 0 = 1
            gate 1 1 = 1
            gate 11 0 = 1
            gate 11 2 = 0
            """);
        E.edge("WEIGHING: from amidst the WHOLES: those above are not gone into", CHAIN + """
            ask 0 11 5 = 1
            weighs 6 = 6
            gate 6 0 = 6
            gate 6 1 = 6
            gate 5 0 = 0
            gate 7 0 = 1
            weighs 11 = 1
            gate 11 0 = 2
            gate 11 1 = 1
            """);
        E.edge("WEIGHING: eleven PARTS", """
            tree -1 0 0 0 0 0 0 0 0 0 0 0
            ask 5 11 2 = 1
            ask 5 1 2 = 1
            weighs 0 = 4
            gate 0 0 = 12
            gate 0 1 = 2
            gate 11 0 = 1
            """);
    }

    private static void weighingBare() {
        E.edge("WEIGHING: a BARE PART, the first: NOTHING; who comes behind it is not gone into", """
            tree -1 0b 0
            weighs 0 = NOTHING
            gate 0 0 = 1
            gate 0 1 = 1
            gate 0 2 = 0
            gate 2 0 = 0
            """);
        E.edge("WEIGHING: a BARE PART, the last: GATES gone into ahead of that have counted it", """
            tree -1 0 0b
            weighs 0 = NOTHING
            gate 0 0 = 2
            gate 0 1 = 2
            gate 0 2 = 0
            gate 1 0 = 1
            gate 1 2 = 0
            """);
        E.edge("WEIGHING: a BARE PART of a PART: all are left at once", """
            tree -1 0 0 1b
            weighs 0 = NOTHING
            gate 0 0 = 2
            gate 0 2 = 0
            gate 1 0 = 1
            gate 1 2 = 0
            gate 2 0 = 0
            plunges 1 1 0 = 1
            gate 1 1 = 1
            """);
        E.edge("WEIGHING: PARTS by numbers, in there its own PARTS", """
            tree -1 0 0 2b 1
            weighs 0 = NOTHING
            gate 0 0 = 4
            gate 0 1 = 3
            gate 1 0 = 1
            gate 4 0 = 1
            gate 2 0 = 1
            """);
        E.edge("WEIGHING: a BARE WHOLE, or one beside it, does not matter", """
            tree -1b 0 0b 1
            ask 0 3 2 = 1
            weighs 1 = 2
            weighs 0 = NOTHING
            gate 1 0 = 2
            """);
    }

    private static void weighs() {
        E.edge("22: BAD", "tree -1 0\n" + Edges.each("weighs ? = BAD", NO_THINGS));
        E.edge("22: NOTHING: a BARE one: no GATE is gone into", "tree -1b 0\nweighs 0 = NOTHING\ngate 1 0 = 0\n");
        E.edge("22: COUNTS of all OWNERS, all MODES, together: none, several", """
            tree -1 0
            weighs 0 = 0
            ask 0 1 2 = 1
            ask 5 1 2 = 1
            2 x ask 0 1 4 = 1
            weighs 0 = 8
            weighs 1 = 4
            ask 5 1 5 = 0
            weighs 1 = 4
            leaves 0 = 1
            weighs 0 = 4
            leaves 5 = 0
            weighs 0 = 0
            """);
        E.edge("22: each of the MODES counts", """
            tree -1 0
            ask 0 0 2 = 1
            weighs 0 = 1
            ask 0 0 4 = 1
            weighs 0 = 2
            ask 0 0 5 = 1
            weighs 0 = 3
            ask 0 1 2 = 1
            weighs 0 = 5
            ask 0 1 5 = 1
            weighs 0 = 7
            """);
    }

    private static void plunges() {
        E.edge("PLUNGING n (1 .. 30) times", """
            tree -1
            plunges 0 1 0 = 1
            gate 0 0 = 1
            gate 0 1 = 1
            plunges 0 30 0 = 30
            gate 0 0 = 31
            gate 0 1 = 30
            gate 0 2 = 0
            plunges 0 2 0 = 2
            gate 0 0 = 33
            gate 0 1 = 30
            """);
        E.edge("PLUNGING: for the k-th time, all are left at once: n, or k, times", """
            tree -1 0
            plunges 1 30 1 = 1
            gate 1 0 = 1
            gate 1 1 = 1
            plunges 1 30 29 = 29
            gate 1 1 = 29
            plunges 1 30 30 = 30
            gate 1 0 = 60
            gate 1 1 = 30
            gate 1 2 = 0
            plunges 1 1 1 = 1
            gate 0 0 = 0
            """);
        E.edge("PLUNGING: k 0: never", "tree -1\nplunges 0 7 0 = 7\ngate 0 1 = 7\ngate 0 2 = 0\n");
    }

    private static void plungesRefused() {
        E.edge("23: BAD: thing", "tree -1 0\n" + Edges.each("plunges ? 1 0 = BAD", NO_THINGS));
        E.edge("23: BAD: n (1 .. 30)", "tree -1\n" + Edges.each("plunges 0 ? 0 = BAD", "MIN", "-1", "0", "31", "MAX")
            + "plunges 0 31 31 = BAD\ngate 0 0 = 0\n");
        E.edge("23: BAD: k 0 .. n", "tree -1\n" + Edges.each("plunges 0 3 ? = BAD", "MIN", "-1", "4", "30", "MAX")
            + "plunges 0 1 2 = BAD\nplunges 0 3 3 = 3\n");
        E.edge("23: NOTHING: a BARE one; BAD ahead of it", """
            tree -1b
            plunges 0 1 0 = NOTHING
            plunges 0 30 30 = NOTHING
            plunges 0 31 0 = BAD
            plunges 0 0 0 = BAD
            plunges 0 1 2 = BAD
            plunges 0 1 -1 = BAD
            plunges 1 1 0 = BAD
            """);
    }

    private static void bell() {
        E.edge("24: rung inside it, for one (how 0), for all (1): 1: it is gone into once", """
            tree -1
            bell 0 0 = 1
            gate 0 0 = 1
            gate 0 1 = 1
            gate 0 2 = 0
            bell 0 1 = 1
            gate 0 0 = 2
            gate 0 1 = 1
            """);
        E.edge("24: outside it (2, 3 likewise): OUTSIDE: no GATE was gone into", """
            tree -1
            bell 0 2 = OUTSIDE
            bell 0 3 = OUTSIDE
            gate 0 0 = 0
            gate 0 1 = 0
            """);
        E.edge("24: BAD", "tree -1 0\n" + Edges.each("bell ? 0 = BAD", NO_THINGS) + Edges.each("bell ? 2 = BAD", NO_THINGS)
            + Edges.each("bell 0 ? = BAD", "MIN", "-1", "4", "MAX"));
        E.edge("24: NOTHING ahead of OUTSIDE, BAD ahead of both", """
            tree -1b
            bell 0 0 = NOTHING
            bell 0 1 = NOTHING
            bell 0 2 = NOTHING
            bell 0 3 = NOTHING
            bell 0 4 = BAD
            bell 0 -1 = BAD
            """);
    }

    private static void gate() {
        E.edge("25: BAD", "tree -1 0\n" + Edges.each("gate ? 0 = BAD", NO_THINGS) + Edges.each("gate 0 ? = BAD", "MIN", "-1", "3", "MAX"));
        E.edge("25: NOTHING: a BARE one; BAD ahead of it", """
            tree -1b
            gate 0 0 = NOTHING
            gate 0 1 = NOTHING
            gate 0 2 = NOTHING
            gate 0 3 = BAD
            gate 0 -1 = BAD
            """);
        E.edge("25: ENTRIES of each GATE by itself", """
            tree -1 -1
            plunges 0 4 0 = 4
            bell 1 1 = 1
            gate 0 0 = 4
            gate 0 1 = 4
            gate 1 0 = 1
            gate 1 1 = 1
            """);
    }

    private static void feed() {
        E.edge("26: BAD: a byte (1 .. 127)", Edges.each("feed ? = BAD", "MIN", "-1", "0", "128", "256", "321", "MAX")
            + "feed 1 = 1\nfeed 127 = 2\ncount 4 = 2\n");
        E.edge("26: FULL: THE TAPE holds 0 .. 120 bytes; BAD ahead of FULL",
            "119 x feed 43\ncount 4 = 119\nfeed 43 = 120\nfeed 43 = FULL\nfeed 0 = BAD\nfeed 128 = BAD\ncount 4 = 120\n");
        E.edge("THE TAPE is empty behind each reads(), whatever it answers", """
            feeds '+'
            reads = 1
            count 4 = 0
            feed 115 = 1
            reads = -1001
            feed 43 = 1
            feed 57 = 2
            reads = -2000
            count 4 = 0
            reads = -1000
            feed 45 = 1
            reads = 1
            count 0 = 2
            """);
    }

    /** Behind some first letters: those that go on, and what is answered then; all others are the FAULT. */
    private static void letters() {
        String figures = "0123456789";
        goesOn("", "+-", 1, "suog", -1001);
        goesOn("+", figures, -2000, ";", -1002);
        goesOn("-", figures, -2000, ";", -1002);
        goesOn("+1", figures, -2000, ";", -1003);
        goesOn("-0", figures, -2000, ";", -1003);
        goesOn("+12", "", 0, ";", -1004);
        for (String mode : new String[] {"s", "u", "o"}) {
            goesOn(mode, "", 0, figures, -1002);
            goesOn("g" + mode, "", 0, figures, -1003);
        }
        goesOn("s9", "", 0, " ", -1003);
        goesOn("s0 ", figures, -2000, "", 0);
        goesOn("s0 1", figures, -2000, ";", -1005);
        goesOn("s0 12", "", 0, ";", -1006);
        goesOn("g", "", 0, "suo", -1002);
        goesOn("gs0", "", 0, " ", -1004);
        goesOn("gs0 ", figures, -2000, "", 0);
        goesOn("gs0 1", figures, -2000, ";", -1006);
        goesOn("gs0 12", "", 0, ";", -1007);
        goesOn("+;", "+-", 2, "suog", -1003);
        goesOn("s0 1;", "+-", -2000, "suog", -1006);
    }

    private static void goesOn(String start, String some, int dueThen, String others, int dueOf) {
        for (int letter = 1; letter <= 127; letter++) {
            int due = -1000 - start.length();
            if (some.indexOf(letter) >= 0) due = dueThen;
            if (others.indexOf(letter) >= 0) due = dueOf;
            E.edge("FAULT: the first byte with which no WORDS go on: " + letter + " behind \"" + start + "\"",
                (start.isEmpty() ? "" : "feeds '" + start + "'\n") + "feed " + letter + "\nreads = " + due + "\ncount 4 = 0\n");
        }
    }

    private static void wordsOf() {
        E.edge("WORDS: + alone: none; - alone: none", """
            reads '+;-' = 2
            thingOf 0 0 = -1
            thingOf 0 1 = 0
            thingOf 1 0 = -1
            thingOf 1 1 = 1
            """);
        E.edge("WORDS: + and a number, - and a number: one or two figures", """
            reads '+;+0;-00;+01;-1' = 5
            thingOf 1 0 = 0
            thingOf 1 1 = 0
            thingOf 2 0 = 0
            thingOf 2 1 = 1
            thingOf 3 0 = 1
            thingOf 3 1 = 0
            thingOf 4 0 = 1
            thingOf 4 1 = 1
            """);
        E.edge("WORDS: a number is as many figures as stand there, 2 at most", """
            tree -1 0 -1 -1 -1 -1 -1 -1 -1 -1 -1
            reads '+10;s0 10;s0 011' = -1015
            reads '+10;s0 10;s0 01' = 3
            thingOf 11 0 = 10
            held 0 10 2 = 1
            held 0 1 2 = 1
            held 0 0 1 = 1
            """);
        E.edge("WORDS: a letter s, u, o (MODES 2, 4, 5)", """
            reads '+;+;s5 0;u5 0;o5 1' = 5
            held 5 0 2 = 1
            held 5 0 4 = 1
            held 5 1 5 = 1
            """);
        E.edge("WORDS: the same with g ahead: GIVING UP", """
            tree -1 -1
            2 x ask 0 0 2 = 1
            ask 0 0 4 = 1
            ask 0 1 5 = 1
            reads 'gs0 0;go0 01;gu0 0' = 3
            held 0 0 2 = 1
            held 0 0 4 = 0
            count 2 = 1
            reads 'gs0 0' = 1
            count 2 = 0
            """);
        E.edge("27: how many STATEMENTS: 1, 30", "reads '+' = 1\nreads '" + "+;".repeat(11) + "s0 0;".repeat(18) + "s0 0' = 30\n"
            + "count 0 = 12\nheld 0 0 2 = 19\n");
    }

    private static void fault(String sentence, String words, int due) {
        E.edge("FAULT: " + sentence + ": \"" + words + "\"", "tree -1 0\nreads '" + words + "' = " + due + "\ncount 4 = 0\ncount 0 = 2\n");
    }

    private static void wordsFault() {
        E.edge("FAULT: the length, also of no bytes", "reads = -1000\ntree -1\nreads = -1000\n");
        fault("the length, if they end too early", "s", -1001);
        fault("the length, if they end too early", "s0", -1002);
        fault("the length, if they end too early", "s0 ", -1003);
        fault("the length, if they end too early", "g", -1001);
        fault("the length, if they end too early", "gu0", -1003);
        fault("the length, if they end too early", "gu0 ", -1004);
        fault("the length, if they end too early: behind a ;", "+;", -1002);
        fault("the length, if they end too early: behind a ;", "s0 1;", -1005);
        fault("one or more, parted by ;", ";", -1000);
        fault("one or more, parted by ;", ";+", -1000);
        fault("one or more, parted by ;", "+;;+", -1002);
        fault("one or more, parted by ;", "+ ;+", -1001);
        fault("one or more, parted by ;", "++", -1001);
        fault("one or more, parted by ;", "s0 1s0 1", -1004);
        fault("one or two figures", "+123", -1003);
        fault("one or two figures", "-000", -1003);
        fault("one or two figures", "s0 001", -1005);
        fault("one figure: OWNER", "s00 1", -1002);
        fault("one blank", "s0  1", -1003);
        fault("one blank", "s0", -1002);
        fault("one blank", "s01", -1002);
        fault("g ahead of an ASK alone", "g+", -1001);
        fault("g ahead of an ASK alone", "ggs0 1", -1001);
        fault("no blanks else", " s0 1", -1000);
        fault("no blanks else", "s 0 1", -1001);
        fault("no blanks else", "s0 1 ", -1004);
        fault("no blanks else", "+ 1", -1001);
        fault("MODES 2, 4, 5 alone", "l0 1", -1000);
        fault("MODES 2, 4, 5 alone", "m0 1", -1000);
        fault("great letters are none", "S0 1", -1000);
        fault("the first byte of several", "s0 1;x;y", -1005);
        fault("the first byte ahead of what is refused", "s9 99;gs0 0;+;x", -1014);
        fault("the length ahead of what is refused", "s9 99;", -1006);
    }

    private static void wordsRefused() {
        E.edge("FAULT: -2000: refused as thing() would refuse it: BAD, no such WHOLE", """
            reads '+0' = -2000
            reads '+;+1' = -2002
            reads '-;+0;-1;-99' = -2008
            reads '+;+00' = 2
            """);
        E.edge("FAULT: -2000: refused as thing() would refuse it: FULL", CHAIN + """
            reads '+' = -2000
            reads 's0 0;-11' = -2005
            """);
        E.edge("FAULT: -2000: FULL within the WORDS", "reads '" + "+;".repeat(59) + "+' = -2024\ncount 0 = 0\n"
            + "reads '" + "+;".repeat(11) + "+' = 12\n");
        E.edge("FAULT: -2000: refused as ask() would refuse it: a THING that there is not", """
            tree -1 0
            reads 's0 2' = -2000
            reads 's0 02' = -2000
            reads 's0 1;u0 99' = -2005
            """);
        for (int owner = 6; owner <= 9; owner++) {
            E.edge("Said once more: a figure 6 .. 9 where an OWNER stands is read, and refused: " + owner, "tree -1\n"
                + "reads 's" + owner + " 0' = -2000\nreads 's5 0;gs" + owner + " 0' = -2005\n");
        }
        E.edge("FAULT: -2000: refused as ask() would refuse it: STATE", """
            tree -1 -1
            ask 0 0 5 = 1
            ask 1 0 2 = 0
            reads 's1 1' = -2000
            reads 's2 0;s2 1' = -2005
            """);
        E.edge("Read: an ASK that is NOT is refused in WORDS, too", """
            tree -1
            reads 's0 0;s1 0;o0 0' = 3
            reads 'o1 0' = -2000
            reads 'gs1 0;s1 0;o0 0' = 3
            held 0 0 5 = 2
            """);
        E.edge("FAULT: -2000: refused as give() would refuse it: STATE", """
            tree -1
            reads 'gs0 0' = -2000
            reads 's0 0;gs0 0;gs0 0' = -2011
            reads 's0 0;gu0 0' = -2005
            """);
        E.edge("FAULT: -2000: refused as give() would refuse it: BAD", "tree -1\nreads 'gs0 1' = -2000\nreads 's0 0;gs6 0' = -2005\n");
        E.edge("FAULT: where the first one begins that is refused, of several", "tree -1\nreads 's0 0;s0 1;s0 2' = -2005\n");
        E.edge("WORDS: an ASK that waits is not refused", """
            tree -1
            reads 'o0 0;s1 0;o2 0' = 3
            line -1 = 2
            line 0 = 1
            line 1 = 2
            """);
    }

    private static void wordsNothingComes() {
        String some = """
            tree -1 0
            ask 0 1 5 = 1
            ask 1 1 2 = 0
            plan 2 0 2 = 1
            image = 2
            plunges 0 3 0 = 3
            fill 0 4 5
            spells = 10
            """;
        E.edge("WORDS: with a FAULT nothing comes: THINGS", some + "reads '+;-0;+2;s9 0' = -2008\ncount 0 = 2\n");
        E.edge("WORDS: with a FAULT nothing comes: HOLDS", some + "reads 's2 0;o0 1;s6 0' = -2010\ncount 2 = 2\n");
        E.edge("WORDS: with a FAULT nothing comes: THE LINE", some + "reads 's3 1;s4 1;s4 1' = -2010\nline -1 = 1\n");
        E.edge("WORDS: with a FAULT nothing comes: what is given up, and who is served", some
            + "reads 'go0 1;go0 1' = -2006\nheld 0 1 5 = 1\nline 0 = 1\n");
        E.edge("Said once more: with a FAULT count(6) is as it was, too", some
            + "count 6 = 1\nreads 'o0 1;go0 1;go0 1;go0 1' = -2017\ncount 6 = 1\nreads 'o0 1' = 1\ncount 6 = 2\n");
        E.edge("WORDS: with a FAULT of the letters nothing comes", some + "reads '+;s2 0;x' = -1007\ncount 0 = 2\ncount 6 = 1\n");
        E.edge("WORDS: with a FAULT a THING that came has left no GATE", some
            + "reads '+;x' = -1002\nreads '+;s6 0' = -2002\nthing -1 0 = 2\ngate 2 0 = 0\n");
    }

    private static void wordsDone() {
        E.edge("WORDS: one by one from the first on: a THING, then an ASK for it", "reads '+;s0 0' = 2\nreads 's0 1;+' = -2000\n");
        E.edge("WORDS: GIVING UP, then SERVING: who is served may ask again", """
            tree -1 -1
            reads 'o0 0;s1 0;go0 0;s1 1' = 4
            held 1 0 2 = 1
            held 1 1 2 = 1
            count 6 = 3
            """);
        E.edge("WORDS: THE PLAN, LISTS, THE PAPER stay", """
            tree -1
            plan 0 0 2 = 1
            fill 1 8
            spells = 0
            reads '+;s0 1' = 2
            count 3 = 1
            row 1 = 8
            count 5 = 0
            plays 2 = 1
            """);
    }

    private static void tapeFull() {
        E.edge("WORDS of 119 bytes", "tree -1\nfeeds '" + "s0 0;".repeat(23) + "s0 0'\ncount 4 = 119\nreads = 24\nheld 0 0 2 = 24\n");
        E.edge("WORDS of 120 bytes", "tree -1\nfeeds '" + "s0 0;".repeat(23) + "s0 00'\ncount 4 = 120\nfeed 59 = FULL\nreads = 24\n");
        E.edge("FAULT: the length of a full TAPE", "tree -1\nfeeds '" + "s0 0;".repeat(24) + "'\nfeed 43 = FULL\nreads = -1120\ncount 2 = 0\n");
        E.edge("FAULT: the last byte of a full TAPE", "tree -1\nreads '" + "s0 0;".repeat(23) + "s0 0x' = -1119\ncount 2 = 0\n");
        E.edge("FAULT: the last STATEMENT of a full TAPE", "tree -1\nreads '" + "s0 0;".repeat(23) + "gu0 0' = -2115\ncount 2 = 0\n");
    }

    private static void spelled() {
        E.edge("SPELLED: no HOLDS", "spells = ''\ntree -1\nspells = ''\npaper 0 = NOT\n");
        E.edge("SPELLED: the MODE's letter (l s m u o)", """
            tree -1 0
            ask 0 1 2 = 1
            ask 0 1 4 = 1
            ask 0 0 2 = 1
            ask 0 0 4 = 1
            ask 0 0 5 = 1
            spells = '0:0l 0:0s 0:0m 0:0u 0:0o 1:0s 1:0u '
            """);
        E.edge("SPELLED: HOLDS by THINGS, OWNERS, MODES", """
            tree -1 -1
            ask 5 1 2 = 1
            ask 5 0 2 = 1
            ask 1 0 4 = 1
            ask 0 1 4 = 1
            ask 1 0 2 = 1
            spells = '0:1s 0:1u 0:5s 1:0u 1:5s '
            """);
        E.edge("SPELLED: a THING's number of two figures", CHAIN + """
            ask 0 11 2 = 1
            spells = '0:0l 1:0l 2:0l 3:0l 4:0l 5:0l 6:0l 7:0l 8:0l 9:0l 10:0l 11:0s '
            """);
        E.edge("SPELLED: perhaps x and the COUNT, if above 1", """
            tree -1
            ask 3 0 2 = 1
            spells = '0:3s '
            ask 3 0 2 = 1
            spells = '0:3sx2 '
            7 x ask 3 0 2 = 1
            spells = '0:3sx9 '
            ask 3 0 2 = 1
            spells = '0:3sx10 '
            89 x ask 3 0 2 = 1
            spells = '0:3sx99 '
            ask 3 0 2 = 1
            spells = '0:3sx100 '
            give 3 0 2 = 0
            spells = '0:3sx99 '
            """);
        E.edge("SPELLED: a COUNT of four figures", "tree -1 0\nlist 0 36\n"
            + Edges.each("set 0 ? 1", "1", "4", "7", "10", "13", "16", "19", "22", "25", "28", "31", "34")
            + Edges.each("set 0 ? 2", "2", "5", "8", "11", "14", "17", "20", "23", "26", "29", "32", "35")
            + "83 x does 0 0 = 12\n3 x ask 0 1 2 = 1\nspells = '0:0lx999 1:0sx999 '\n"
            + "ask 0 1 2 = 1\nspells = '0:0lx1000 1:0sx1000 '\n7 x does 0 0 = 12\nspells = '0:0lx1084 1:0sx1084 '\n");
        E.edge("SPELLED: who waits is not", "tree -1\nask 0 0 5 = 1\nask 1 0 2 = 0\nspells = '0:0o '\n");
        StringBuilder many = new StringBuilder("tree -1 0 1 2 3 4 5 5 5 5 5 5\n");
        for (int k = 0; k < 6; k++) many.append("ask ").append(k).append(' ').append(6 + k).append(" 5 = 1\n");
        for (int k = 0; k < 6; k++) many.append("ask ").append(k).append(' ').append(6 + k).append(" 2 = 1\n");
        E.edge("Read: THE PAPER holds all of what is SPELLED", many
            + "spells = 424\ncount 5 = 424\npaper 0 = 48\npaper 358 = 109\npaper 422 = 111\npaper 423 = 32\npaper 424 = NOT\n");
    }

    private static void paper() {
        E.edge("29: BAD: below 0", "paper -1 = BAD\npaper MIN = BAD\ntree -1\nask 0 0 2 = 1\nspells = 5\npaper -1 = BAD\n");
        E.edge("29: NOT: it has not as many", """
            paper 0 = NOT
            tree -1
            ask 0 0 2 = 1
            paper 0 = NOT
            spells = 5
            paper 4 = 32
            paper 5 = NOT
            paper MAX = NOT
            """);
        E.edge("THE PAPER stays until the next spells()", """
            tree -1 -1
            ask 0 0 2 = 1
            ask 0 1 5 = 1
            spells = '0:0s 1:0o '
            leaves 0 = 0
            reads 'u1 1' = 1
            image = 2
            back = 2
            paper = '0:0s 1:0o '
            spells = '1:1u '
            paper 5 = NOT
            leaves 1 = 0
            spells = ''
            """);
    }
}
