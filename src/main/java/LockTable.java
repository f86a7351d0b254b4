/** A table of holds on things with parts and wholes; what each call does is told in DOC.md. */
public final class LockTable {
    public static final int BAD = -1, NOT = -2, FULL = -3, STATE = -5;
    public static final long NO = Long.MIN_VALUE;

    private static final int NOTHING = -11, OUTSIDE = -12, BEYOND = -13, BELOW = -14;
    private static final int LETTER_FAULT = -1000, REFUSAL_FAULT = -2000;
    private static final int MAX_THINGS = 12, OWNERS = 6, MAX_ROWS = 12, MAX_ROUNDS = 40;
    private static final int LOOKS = 1, SHARES = 2, MEANS = 3, UPDATES = 4, OWNS = 5, MODES = 5;
    private static final int MAX_LOTS = 60, MAX_PLUNGES = 30;
    private static final int MAX_LETTER = 127, TAPE_SIZE = 120;
    private static final int LISTS = 3, LIST_SIZE = 36;

    /** The modes that can be asked for, the weakest first. */
    private static final int[] ASKED_MODES = {SHARES, UPDATES, OWNS};

    /** For each mode that can be asked for what is taken by it at the wholes above. */
    private static final int[] MEANT_ABOVE = {0, 0, LOOKS, 0, MEANS, MEANS};

    /** For each mode the modes that do not go together with it, a bit each; bit 0 is no mode. */
    private static final int[] CLASHES = {
        0,
        1 << OWNS,
        1 << MEANS | 1 << OWNS,
        1 << SHARES | 1 << UPDATES | 1 << OWNS,
        1 << MEANS | 1 << UPDATES | 1 << OWNS,
        1 << LOOKS | 1 << SHARES | 1 << MEANS | 1 << UPDATES | 1 << OWNS
    };

    private final Table truth = new Table();
    /** What is only thought, or may yet be taken back, is done here, so that the truth need not be mended. */
    private final Table thought = new Table();
    private final Table kept = new Table();
    private boolean isKept = false;
    private final Player player = new Player();
    private final Lot lot = new Lot();
    private final Gates gates = new Gates();
    private final Tape tape = new Tape();
    private final Paper sheet = new Paper();
    private final Lists lists = new Lists();

    public LockTable() {
    }

    // ---- things

    public int thing(int whole, int bare) {
        return truth.addThing(whole, bare);
    }

    public int thingOf(int thing, int what) {
        if (!truth.isThing(thing)) return BAD;
        switch (what) {
            case 0: return truth.whole[thing];
            case 1: return truth.bare[thing];
            case 2: return truth.wholesAbove(thing);
            case 3: return truth.partBits(thing);
            case 4: return truth.countsAt(thing);
            case 5: return truth.asksFor(thing);
            default: return BAD;
        }
    }

    // ---- asking and giving up

    public int ask(int owner, int thing, int mode) {
        return truth.request(owner, thing, mode);
    }

    public int give(int owner, int thing, int mode) {
        return truth.giveUp(owner, thing, mode);
    }

    public int leaves(int owner) {
        return isOwner(owner) ? truth.giveUpAll(owner) : BAD;
    }

    public int forgets(int owner) {
        if (!isOwner(owner)) return BAD;
        if (!truth.isWaiting(owner)) return STATE;
        truth.quitLine(owner);
        return truth.serve();
    }

    public int breaks() {
        int least = truth.leastOf(truth.ringBits());
        if (least < 0) return NOT;
        truth.giveUpAll(least);
        return least;
    }

    // ---- what there is

    public int held(int owner, int thing, int mode) {
        if (!isOwner(owner) || !truth.isThing(thing) || !isMode(mode)) return BAD;
        return truth.counts[Table.cell(owner, thing, mode)];
    }

    public int holders(int thing, int mode) {
        if (!truth.isThing(thing)) return BAD;
        if (mode == 0) return truth.holdersInAny(thing);
        return isMode(mode) ? truth.holding[Table.row(thing, mode)] : BAD;
    }

    public int waits(int owner) {
        if (!isOwner(owner)) return BAD;
        if (!truth.isWaiting(owner)) return NOT;
        int thing = truth.askThing[owner];
        return 100 * thing + 10 * truth.askMode[owner] + (truth.isRaise(owner, thing) ? 1 : 0);
    }

    public int line(int k) {
        if (k < -1) return BAD;
        if (k == -1) return truth.waiting;
        return k < truth.waiting ? truth.line[k] : NOT;
    }

    public int waitsFor(int owner) {
        return isOwner(owner) ? truth.waitsForBits(owner) : BAD;
    }

    public int ring(int what) {
        if (what < 0 || what > 2) return BAD;
        int bits = truth.ringBits();
        if (what == 0) return bits;
        int least = truth.leastOf(bits);
        if (least < 0) return NOT;
        return what == 1 ? least : truth.askedCounts(least);
    }

    public int count(int what) {
        switch (what) {
            case 0: return truth.things;
            case 1: return truth.waiting;
            case 2: return truth.allCounts();
            case 3: return truth.rows;
            case 4: return tape.length;
            case 5: return sheet.length;
            case 6: return truth.grants;
            default: return BAD;
        }
    }

    // ---- in thought

    public int would(int owner, int thing, int mode) {
        if (!truth.isAsk(owner, thing, mode)) return BAD;
        if (truth.isWaiting(owner)) return STATE;
        if (truth.hindrances(owner, thing, mode) == 0) return 1;
        thought.copyFrom(truth);
        thought.joinLine(owner, thing, mode);
        return hasBit(thought.ringBits(), owner) ? 2 : 0;
    }

    /** Each owner who hinders does so on its own, so just all of them must give up. */
    public int needs(int owner, int thing, int mode) {
        if (!truth.isAsk(owner, thing, mode)) return BAD;
        if (truth.isWaiting(owner)) return STATE;
        return truth.hindrances(owner, thing, mode);
    }

    public int strongest(int owner, int thing) {
        if (!isOwner(owner) || !truth.isThing(thing)) return BAD;
        if (truth.isWaiting(owner)) return STATE;
        for (int k = ASKED_MODES.length - 1; k >= 0; k--) {
            if (truth.hindrances(owner, thing, ASKED_MODES[k]) == 0) return ASKED_MODES[k];
        }
        return NOT;
    }

    public int plan(int owner, int thing, int mode) {
        if (owner == -1) {
            truth.rows = 0;
            return 0;
        }
        return truth.addRow(owner, thing, mode);
    }

    public int plays(int what) {
        if (what < 0 || what > 2) return BAD;
        thought.copyFrom(truth);
        thought.grants = 0;
        player.start(thought);
        for (int k = 0; k < MAX_ROUNDS && player.onWay != 0; k++) player.playRound(thought);
        switch (what) {
            case 0: return player.onWay == 0 ? player.rounds : MAX_ROUNDS + 1;
            case 1: return player.broken;
            default: return thought.grants;
        }
    }

    public int lots(int n, int z, int what) {
        if (n < 1 || n > MAX_LOTS || what < 0 || what > 1) return BAD;
        if (truth.things == 0) return STATE;
        thought.copyFrom(truth);
        lot.seed = z;
        int granted = 0;
        for (int k = 0; k < n; k++) {
            if (askByLot() == 1) granted++;
        }
        return what == 0 ? granted : thought.waiting;
    }

    private int askByLot() {
        int owner = lot.below(OWNERS);
        // An owner who waits draws neither a thing nor a mode.
        if (thought.isWaiting(owner)) return STATE;
        int thing = lot.below(thought.things);
        return thought.request(owner, thing, ASKED_MODES[lot.below(ASKED_MODES.length)]);
    }

    // ---- gates

    public int weighs(int thing) {
        int refusal = gateRefusal(thing);
        if (refusal != 0) return refusal;
        gates.enter(thing);
        int weight = weighInside(truth, gates, thing, thing, 0);
        gates.leave(thing);
        return weight;
    }

    /** The weight of a thing whose gate stands open; NOTHING once a bare part is come to, which leaves all gates. */
    private static int weighInside(Table table, Gates gates, int asked, int thing, int depth) {
        if (depth >= MAX_THINGS) return NOTHING;
        int weight = table.countsAt(thing);
        for (int part = thing + 1; part < table.things; part++) {
            if (table.whole[part] != thing) continue;
            if (table.isBare(part)) return NOTHING;
            gates.enter(part);
            gates.enter(asked);
            int more = weighInside(table, gates, asked, part, depth + 1);
            gates.leave(asked);
            gates.leave(part);
            if (more < 0) return NOTHING;
            weight += more;
        }
        return weight;
    }

    public int plunges(int thing, int n, int k) {
        if (n < 1 || n > MAX_PLUNGES || k < 0 || k > n) return BAD;
        int refusal = gateRefusal(thing);
        if (refusal != 0) return refusal;
        int times = k == 0 ? n : k;
        for (int i = 0; i < times; i++) gates.enter(thing);
        for (int i = 0; i < times; i++) gates.leave(thing);
        return times;
    }

    public int bell(int thing, int how) {
        if (how < 0 || how > 3) return BAD;
        int refusal = gateRefusal(thing);
        if (refusal != 0) return refusal;
        if (how > 1) return OUTSIDE;
        gates.enter(thing);
        gates.leave(thing);
        return 1;
    }

    public int gate(int thing, int what) {
        if (what < 0 || what > 2) return BAD;
        int refusal = gateRefusal(thing);
        if (refusal != 0) return refusal;
        switch (what) {
            case 0: return gates.entries[thing];
            case 1: return gates.deepest[thing];
            default: return gates.inside[thing];
        }
    }

    private int gateRefusal(int thing) {
        if (!truth.isThing(thing)) return BAD;
        return truth.isBare(thing) ? NOTHING : 0;
    }

    // ---- words

    public int feed(int letter) {
        if (letter < 1 || letter > MAX_LETTER) return BAD;
        if (tape.length >= TAPE_SIZE) return FULL;
        tape.append(letter);
        return tape.length;
    }

    public int reads() {
        int answer = tape.parse();
        tape.length = 0;
        if (answer < 0) return answer;
        thought.copyFrom(truth);
        thought.grants = 0;
        for (int k = 0; k < answer; k++) {
            if (tape.perform(k, thought) < 0) return REFUSAL_FAULT - tape.start[k];
        }
        truth.copyFrom(thought);
        truth.grants += thought.grants;
        return answer;
    }

    public int spells() {
        sheet.length = 0;
        for (int thing = 0; thing < truth.things; thing++) {
            for (int owner = 0; owner < OWNERS; owner++) {
                for (int mode = LOOKS; mode <= MODES; mode++) {
                    sheet.putHold(thing, owner, mode, truth.counts[Table.cell(owner, thing, mode)]);
                }
            }
        }
        return sheet.length;
    }

    public int paper(int i) {
        if (i < 0) return BAD;
        return i < sheet.length ? sheet.bytes[i] : NOT;
    }

    // ---- rows, the image

    public int list(int list, int n) {
        if (!Lists.isList(list) || n > LIST_SIZE) return BAD;
        if (n < 0) return BELOW;
        lists.make(list, n);
        return 1;
    }

    public int set(int list, int i, int v) {
        if (!Lists.isList(list)) return BAD;
        if (!lists.holdsRow(list)) return NOTHING;
        if (!lists.hasPlace(list, i)) return BEYOND;
        lists.cells[Lists.cell(list, i)] = v;
        return 1;
    }

    public long get(int list, int i) {
        if (!Lists.isList(list) || !lists.hasPlace(list, i)) return NO;
        return lists.cells[Lists.cell(list, i)];
    }

    public int does(int list, int p) {
        if (!Lists.isList(list) || p < 0) return BAD;
        if (!lists.holdsRow(list)) return NOTHING;
        int taken = 0;
        for (int i = p; i <= lists.sizes[list] - 3; i += 3) {
            int at = Lists.cell(list, i);
            if (truth.request(lists.cells[at], lists.cells[at + 1], lists.cells[at + 2]) >= 0) taken++;
        }
        return taken;
    }

    public int into(int thing, int list, int p) {
        if (!truth.isThing(thing) || !Lists.isList(list)) return BAD;
        if (!lists.holdsRow(list)) return NOTHING;
        if (p < 0) return BEYOND;
        int first = Table.cell(0, thing, LOOKS);
        int done = 0;
        while (done < OWNERS * MODES && lists.hasPlace(list, p + done)) {
            lists.cells[Lists.cell(list, p + done)] = truth.counts[first + done];
            done++;
        }
        return done;
    }

    public int image() {
        kept.copyFrom(truth);
        isKept = true;
        return truth.things;
    }

    public int back() {
        if (!isKept) return STATE;
        truth.copyFrom(kept);
        gates.closeFrom(truth.things);
        return truth.things;
    }

    private static boolean isOwner(int owner) {
        return owner >= 0 && owner < OWNERS;
    }

    private static boolean isMode(int mode) {
        return mode >= LOOKS && mode <= MODES;
    }

    private static boolean hasBit(int bits, int number) {
        return (bits >> number & 1) != 0;
    }

    /** All that an image keeps: things, holds, the line, the plan. */
    private static final class Table {
        int things = 0;
        final int[] whole = new int[MAX_THINGS];
        final int[] bare = new int[MAX_THINGS];

        /** By things, owners, modes, as they are spelled. */
        final int[] counts = new int[MAX_THINGS * OWNERS * MODES];
        /** By things and modes: whose counts are not 0, so that a look at a thing need not go over its owners. */
        final int[] holding = new int[MAX_THINGS * MODES];

        int waiting = 0;
        final int[] line = new int[OWNERS];
        final int[] askThing = new int[OWNERS];
        /** 0 of an owner who is not in the line. */
        final int[] askMode = new int[OWNERS];

        int rows = 0;
        final int[] rowOwner = new int[MAX_ROWS];
        final int[] rowThing = new int[MAX_ROWS];
        final int[] rowMode = new int[MAX_ROWS];

        int grants = 0;
        private final int[] reach = new int[OWNERS];

        /** Grants are left out: what was granted in truth is not taken back. */
        void copyFrom(Table other) {
            things = other.things;
            System.arraycopy(other.whole, 0, whole, 0, MAX_THINGS);
            System.arraycopy(other.bare, 0, bare, 0, MAX_THINGS);
            System.arraycopy(other.counts, 0, counts, 0, MAX_THINGS * OWNERS * MODES);
            System.arraycopy(other.holding, 0, holding, 0, MAX_THINGS * MODES);
            waiting = other.waiting;
            System.arraycopy(other.line, 0, line, 0, OWNERS);
            System.arraycopy(other.askThing, 0, askThing, 0, OWNERS);
            System.arraycopy(other.askMode, 0, askMode, 0, OWNERS);
            rows = other.rows;
            System.arraycopy(other.rowOwner, 0, rowOwner, 0, MAX_ROWS);
            System.arraycopy(other.rowThing, 0, rowThing, 0, MAX_ROWS);
            System.arraycopy(other.rowMode, 0, rowMode, 0, MAX_ROWS);
        }

        static int cell(int owner, int thing, int mode) {
            return (thing * OWNERS + owner) * MODES + mode - 1;
        }

        static int row(int thing, int mode) {
            return thing * MODES + mode - 1;
        }

        boolean isThing(int thing) {
            return thing >= 0 && thing < things;
        }

        boolean isBare(int thing) {
            return bare[thing] == 1;
        }

        boolean isAsk(int owner, int thing, int mode) {
            return isOwner(owner) && isThing(thing) && (mode == SHARES || mode == UPDATES || mode == OWNS);
        }

        boolean isWaiting(int owner) {
            return askMode[owner] != 0;
        }

        // -- things

        int addThing(int itsWhole, int itsBare) {
            if (itsWhole != -1 && !isThing(itsWhole)) return BAD;
            if (itsBare != 0 && itsBare != 1) return BAD;
            if (things >= MAX_THINGS) return FULL;
            whole[things] = itsWhole;
            bare[things] = itsBare;
            things++;
            return things - 1;
        }

        int wholesAbove(int thing) {
            int above = 0;
            for (int at = whole[thing]; at >= 0 && above < MAX_THINGS; at = whole[at]) above++;
            return above;
        }

        int partBits(int thing) {
            int bits = 0;
            for (int part = thing + 1; part < things; part++) {
                if (whole[part] == thing) bits |= 1 << part;
            }
            return bits;
        }

        int countsAt(int thing) {
            int sum = 0;
            int first = thing * OWNERS * MODES;
            for (int k = 0; k < OWNERS * MODES; k++) sum += counts[first + k];
            return sum;
        }

        int allCounts() {
            int sum = 0;
            for (int thing = 0; thing < things; thing++) sum += countsAt(thing);
            return sum;
        }

        int asksFor(int thing) {
            int asks = 0;
            for (int owner = 0; owner < OWNERS; owner++) {
                if (isWaiting(owner) && askThing[owner] == thing) asks++;
            }
            return asks;
        }

        int holdersInAny(int thing) {
            int bits = 0;
            for (int mode = LOOKS; mode <= MODES; mode++) bits |= holding[row(thing, mode)];
            return bits;
        }

        // -- what an ask takes, and who hinders it

        boolean isRaise(int owner, int thing) {
            int first = thing * MODES - 1;
            int bits = holding[first + SHARES] | holding[first + UPDATES] | holding[first + OWNS];
            return (bits >> owner & 1) != 0;
        }

        /** The owners (bits) by whom an ask is barred or behind whom it is; 0: it can be. */
        int hindrances(int owner, int thing, int mode) {
            int bits = barring(owner, thing, mode);
            return isRaise(owner, thing) ? bits : bits | standingAhead(owner, thing, mode);
        }

        private int barring(int owner, int thing, int mode) {
            int bits = 0;
            int at = thing;
            int taken = mode;
            for (int up = 0; up < MAX_THINGS && at >= 0; up++) {
                int first = at * MODES - 1;
                for (int other = LOOKS; other <= MODES; other++) {
                    if ((CLASHES[taken] >> other & 1) != 0) bits |= holding[first + other];
                }
                at = whole[at];
                taken = MEANT_ABOVE[mode];
            }
            return bits & ~(1 << owner);
        }

        /** An owner who is not in the line stands behind all who are. */
        private int standingAhead(int owner, int thing, int mode) {
            int bits = 0;
            for (int k = 0; k < waiting && line[k] != owner; k++) {
                int other = line[k];
                boolean clash = (CLASHES[mode] >> askMode[other] & 1) != 0;
                if (askThing[other] == thing && clash) bits |= 1 << other;
            }
            return bits;
        }

        // -- asking and giving up

        int request(int owner, int thing, int mode) {
            if (!isAsk(owner, thing, mode)) return BAD;
            if (isWaiting(owner)) return STATE;
            if (hindrances(owner, thing, mode) == 0) {
                grant(owner, thing, mode);
                return 1;
            }
            if (isRaise(owner, thing) && raiseWaits(thing)) return NOT;
            joinLine(owner, thing, mode);
            return 0;
        }

        private boolean raiseWaits(int thing) {
            for (int k = 0; k < waiting; k++) {
                if (askThing[line[k]] == thing && isRaise(line[k], thing)) return true;
            }
            return false;
        }

        int giveUp(int owner, int thing, int mode) {
            if (!isAsk(owner, thing, mode)) return BAD;
            if (counts[cell(owner, thing, mode)] == 0) return STATE;
            shiftCounts(owner, thing, mode, -1);
            return serve();
        }

        int giveUpAll(int owner) {
            quitLine(owner);
            for (int thing = 0; thing < things; thing++) {
                for (int mode = LOOKS; mode <= MODES; mode++) {
                    counts[cell(owner, thing, mode)] = 0;
                    holding[row(thing, mode)] &= ~(1 << owner);
                }
            }
            return serve();
        }

        private void grant(int owner, int thing, int mode) {
            shiftCounts(owner, thing, mode, 1);
            grants++;
        }

        private void shiftCounts(int owner, int thing, int mode, int by) {
            int at = thing;
            int taken = mode;
            for (int up = 0; up < MAX_THINGS && at >= 0; up++) {
                int cell = cell(owner, at, taken);
                int row = row(at, taken);
                counts[cell] += by;
                holding[row] = counts[cell] != 0 ? holding[row] | 1 << owner : holding[row] & ~(1 << owner);
                at = whole[at];
                taken = MEANT_ABOVE[mode];
            }
        }

        // -- the line

        void joinLine(int owner, int thing, int mode) {
            if (waiting >= OWNERS) return;
            line[waiting] = owner;
            askThing[owner] = thing;
            askMode[owner] = mode;
            waiting++;
        }

        void quitLine(int owner) {
            int left = 0;
            for (int k = 0; k < waiting; k++) {
                if (line[k] != owner) {
                    line[left] = line[k];
                    left++;
                }
            }
            waiting = left;
            askMode[owner] = 0;
        }

        int serve() {
            int served = 0;
            for (int k = 0; k < OWNERS; k++) {
                int owner = nextToServe();
                if (owner < 0) break;
                grant(owner, askThing[owner], askMode[owner]);
                quitLine(owner);
                served++;
            }
            return served;
        }

        private int nextToServe() {
            int first = -1;
            for (int k = 0; k < waiting; k++) {
                int owner = line[k];
                if (hindrances(owner, askThing[owner], askMode[owner]) != 0) continue;
                if (isRaise(owner, askThing[owner])) return owner;
                if (first < 0) first = owner;
            }
            return first;
        }

        // -- rings

        int waitsForBits(int owner) {
            return isWaiting(owner) ? hindrances(owner, askThing[owner], askMode[owner]) : 0;
        }

        int ringBits() {
            if (waiting == 0) return 0;
            for (int owner = 0; owner < OWNERS; owner++) reach[owner] = waitsForBits(owner);
            for (int over = 0; over < OWNERS; over++) {
                for (int owner = 0; owner < OWNERS; owner++) {
                    if (hasBit(reach[owner], over)) reach[owner] |= reach[over];
                }
            }
            int bits = 0;
            for (int owner = 0; owner < OWNERS; owner++) bits |= reach[owner] & 1 << owner;
            return bits;
        }

        /** The least of a ring, -1 if there is none. */
        int leastOf(int ring) {
            int least = -1;
            int fewest = 0;
            for (int owner = 0; owner < OWNERS; owner++) {
                if (!hasBit(ring, owner)) continue;
                int sum = askedCounts(owner);
                if (least < 0 || sum <= fewest) {
                    least = owner;
                    fewest = sum;
                }
            }
            return least;
        }

        int askedCounts(int owner) {
            int sum = 0;
            for (int thing = 0; thing < things; thing++) {
                for (int k = 0; k < ASKED_MODES.length; k++) sum += counts[cell(owner, thing, ASKED_MODES[k])];
            }
            return sum;
        }

        // -- the plan

        int addRow(int owner, int thing, int mode) {
            if (!isAsk(owner, thing, mode)) return BAD;
            if (rows >= MAX_ROWS) return FULL;
            rowOwner[rows] = owner;
            rowThing[rows] = thing;
            rowMode[rows] = mode;
            rows++;
            return rows;
        }
    }

    /** Plays the plan of a table, and changes that table by it. */
    private static final class Player {
        private final int[] nextRow = new int[OWNERS];
        /** The owners (bits) that have rows and are not through. */
        int onWay = 0;
        int rounds = 0;
        int broken = 0;

        void start(Table table) {
            onWay = 0;
            rounds = 0;
            broken = 0;
            for (int owner = 0; owner < OWNERS; owner++) nextRow[owner] = 0;
            for (int row = 0; row < table.rows; row++) onWay |= 1 << table.rowOwner[row];
        }

        void playRound(Table table) {
            for (int owner = 0; owner < OWNERS; owner++) {
                if (!hasBit(onWay, owner) || table.isWaiting(owner)) continue;
                int row = takeRow(table, owner);
                if (row >= 0) {
                    table.request(owner, table.rowThing[row], table.rowMode[row]);
                } else {
                    table.giveUpAll(owner);
                    onWay &= ~(1 << owner);
                }
            }
            int least = table.leastOf(table.ringBits());
            if (least >= 0) {
                table.giveUpAll(least);
                broken++;
            }
            rounds++;
        }

        /** The owner's next row, and moves on behind it; -1 if it has none left. */
        private int takeRow(Table table, int owner) {
            for (int row = nextRow[owner]; row < table.rows; row++) {
                if (table.rowOwner[row] == owner) {
                    nextRow[owner] = row + 1;
                    return row;
                }
            }
            return -1;
        }
    }

    /** Draws from a seed. */
    private static final class Lot {
        int seed = 0;

        int below(int m) {
            if (m <= 0) return 0;
            seed = seed * 1103515245 + 12345;
            return (seed & 0x7fffffff) / 65536 % m;
        }
    }

    /** What gates count; at numbers without a thing all is 0, so that a new thing's gate was not gone into. */
    private static final class Gates {
        final int[] entries = new int[MAX_THINGS];
        final int[] deepest = new int[MAX_THINGS];
        final int[] inside = new int[MAX_THINGS];

        void enter(int thing) {
            entries[thing]++;
            inside[thing]++;
            deepest[thing] = Math.max(deepest[thing], inside[thing]);
        }

        void leave(int thing) {
            inside[thing]--;
        }

        void closeFrom(int first) {
            for (int thing = first; thing < MAX_THINGS; thing++) {
                entries[thing] = 0;
                deepest[thing] = 0;
                inside[thing] = 0;
            }
        }
    }

    /** The tape, and the statements that were found on it. */
    private static final class Tape {
        /** The shortest statement is one byte, and one more parts it from the next. */
        private static final int MAX_STATEMENTS = TAPE_SIZE / 2 + 1;
        private static final int ASK = 0, GIVE = 1, GATED = 2, BARE = 3;

        int length = 0;
        private final byte[] bytes = new byte[TAPE_SIZE];
        private int at = 0;

        final int[] start = new int[MAX_STATEMENTS];
        private final int[] kind = new int[MAX_STATEMENTS];
        private final int[] mode = new int[MAX_STATEMENTS];
        private final int[] owner = new int[MAX_STATEMENTS];
        private final int[] number = new int[MAX_STATEMENTS];

        void append(int letter) {
            if (length >= TAPE_SIZE) return;
            bytes[length] = (byte) letter;
            length++;
        }

        /** How many statements stand on the tape, or the fault of its letters. */
        int parse() {
            at = 0;
            for (int k = 0; k < MAX_STATEMENTS; k++) {
                if (!parseStatement(k)) break;
                if (at >= length) return k + 1;
                if (peek() != ';') break;
                at++;
            }
            return LETTER_FAULT - at;
        }

        /** 0 at the end: no byte on the tape is 0. */
        private int peek() {
            return at < length ? bytes[at] : 0;
        }

        /** Moves on over a statement; if it is none, up to the byte that spoils it. */
        private boolean parseStatement(int k) {
            start[k] = at;
            int first = peek();
            if (first == '+' || first == '-') {
                kind[k] = first == '+' ? GATED : BARE;
                at++;
                number[k] = parseNumber();
                return true;
            }
            kind[k] = first == 'g' ? GIVE : ASK;
            if (first == 'g') at++;
            return parseAsk(k);
        }

        private boolean parseAsk(int k) {
            mode[k] = modeOf(peek());
            if (mode[k] == 0) return false;
            at++;
            if (!isFigure(peek())) return false;
            owner[k] = peek() - '0';
            at++;
            if (peek() != ' ') return false;
            at++;
            number[k] = parseNumber();
            return number[k] >= 0;
        }

        /** -1 if no figure stands there, which is also how a thing without a whole is told. */
        private int parseNumber() {
            if (!isFigure(peek())) return -1;
            int n = peek() - '0';
            at++;
            if (!isFigure(peek())) return n;
            n = 10 * n + peek() - '0';
            at++;
            return n;
        }

        private static boolean isFigure(int letter) {
            return letter >= '0' && letter <= '9';
        }

        private static int modeOf(int letter) {
            switch (letter) {
                case 's': return SHARES;
                case 'u': return UPDATES;
                case 'o': return OWNS;
                default: return 0;
            }
        }

        /** Below 0 if the table refuses the statement. */
        int perform(int k, Table table) {
            switch (kind[k]) {
                case GATED: return table.addThing(number[k], 0);
                case BARE: return table.addThing(number[k], 1);
                case GIVE: return table.giveUp(owner[k], number[k], mode[k]);
                default: return table.request(owner[k], number[k], mode[k]);
            }
        }
    }

    /** What was spelled last. */
    private static final class Paper {
        /** A hold takes 11 bytes at most: 512 calls do not bring a count to five figures. */
        private static final int SIZE = MAX_THINGS * OWNERS * MODES * 11;

        int length = 0;
        final byte[] bytes = new byte[SIZE];

        void putHold(int thing, int owner, int mode, int count) {
            if (count == 0) return;
            putNumber(thing);
            put(':');
            putNumber(owner);
            put(letterOf(mode));
            if (count > 1) {
                put('x');
                putNumber(count);
            }
            put(' ');
        }

        private static int letterOf(int mode) {
            switch (mode) {
                case LOOKS: return 'l';
                case SHARES: return 's';
                case MEANS: return 'm';
                case UPDATES: return 'u';
                default: return 'o';
            }
        }

        private void putNumber(int n) {
            for (int unit = 1000000000; unit > 0; unit /= 10) {
                if (n >= unit || unit == 1) put('0' + n / unit % 10);
            }
        }

        private void put(int letter) {
            if (length >= SIZE) return;
            bytes[length] = (byte) letter;
            length++;
        }
    }

    /** Rows of ints, all in one. */
    private static final class Lists {
        final int[] cells = new int[LISTS * LIST_SIZE];
        /** -1 of a list that holds nothing. */
        final int[] sizes = {-1, -1, -1};

        static boolean isList(int list) {
            return list >= 0 && list < LISTS;
        }

        static int cell(int list, int i) {
            return list * LIST_SIZE + i;
        }

        boolean holdsRow(int list) {
            return sizes[list] >= 0;
        }

        boolean hasPlace(int list, int i) {
            return i >= 0 && i < sizes[list];
        }

        void make(int list, int n) {
            sizes[list] = n;
            for (int i = 0; i < n; i++) cells[cell(list, i)] = 0;
        }
    }
}
