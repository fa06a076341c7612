import java.util.Arrays;

/**
 * Two pupils of one master fight by changing, each into what beats what the other one is.
 * What each call promises stands in DOC.md; words in capitals here are that document's terms.
 */
public final class ShapeDuel {
    public static final int BAD = -1, FULL = -2, FINDING = -3, STATE = -4, SPENT = -6, NONE = -9;

    private static final int FINE = 0;
    private static final int NOTHING = 1, BEYOND = 2, UNLIKE = 3, NOUGHT = 4, SIZE = 5;
    private static final int GRAIN = 1, BEES = 2, BEAST = 3, SWARM = 4, MAN = 5;
    private static final int ROWS = 6, ROW_SIZE = 40, TEXTS = 4, TEXT_SIZE = 80, KEPT = 3;
    private static final int MOST_SHAPES = 5, MOST_CHANGES = 12, MOST_FROM_ONE = 4;
    private static final int MOST_FIRE = 5, MOST_COST = 5, MOST_DONE = 40;
    private static final int MOST_JUDGED = 12, MOST_SHOWN = 8, MOST_LINED = 6, MOST_LOTS = 20;
    private static final int BLANK = 32;
    private static final long LOT_FACTOR = 48271, LOT_MODULUS = 2147483647;

    /** The letter of each KIND, and of which KIND each one is besides itself. */
    private static final int[] LETTERS = {115, 103, 98, 97, 119, 109};
    private static final int[] ABOVE = {0, 0, 0, 0, BEES, GRAIN};

    private final Strip[] rows = new Strip[ROWS];
    private final Strip[] texts = new Strip[TEXTS];
    private final Table table = new Table();
    private final Fight fight = new Fight(table);
    private final Fight[] kept = new Fight[KEPT];
    private final Reader reader = new Reader();
    private final Memo memo = new Memo();
    private final Search search = new Search(fight, memo);
    private final Lottery lottery = new Lottery(fight, memo);
    private final Showing showing = new Showing(fight);
    private final Patterns patterns = new Patterns(table);
    private final int[] foundTimes = new int[SIZE + 1];
    private int lastFound = 0;
    private int lastAsked = 0;
    private long chanceUpper = 0;
    private long chanceLower = 1;

    public ShapeDuel() {
        for (int r = 0; r < ROWS; r++) {
            rows[r] = new Strip(ROW_SIZE);
        }
        for (int t = 0; t < TEXTS; t++) {
            texts[t] = new Strip(TEXT_SIZE);
        }
        for (int k = 0; k < KEPT; k++) {
            kept[k] = new Fight(table);
        }
    }

    // ---- 1 rows, texts, nights

    public int row(int r, int n) {
        return layAnew(rows, r, n, 0);
    }

    public int lay(int r, int i, int v) {
        int refusal = refusePlace(rows, r, i);
        if (refusal != FINE) {
            return refusal;
        }
        lastAsked = rows[r].cells[i];
        rows[r].cells[i] = v;
        return 1;
    }

    public int at(int r, int i) {
        int refusal = refusePlace(rows, r, i);
        if (refusal != FINE) {
            return refusal;
        }
        return tell(rows[r].cells[i]);
    }

    public int tear(int r) {
        int refusal = refuseStrip(rows, r);
        if (refusal != FINE) {
            return refusal;
        }
        rows[r].size = -1;
        return 1;
    }

    public int copy(int r, int i, int to, int j, int n) {
        if (!within(r, ROWS) || !within(to, ROWS)) {
            return BAD;
        }
        if (n < 0) {
            return find(SIZE);
        }
        if (rows[r].size < 0 || rows[to].size < 0) {
            return find(NOTHING);
        }
        if (!rows[r].holds(i, n) || !rows[to].holds(j, n)) {
            return find(BEYOND);
        }
        System.arraycopy(rows[r].cells, i, rows[to].cells, j, n);
        return 1;
    }

    public int mean(int r) {
        int refusal = refuseStrip(rows, r);
        if (refusal != FINE) {
            return refusal;
        }
        if (rows[r].size == 0) {
            return find(NOUGHT);
        }
        return tell((int) (rows[r].sum() / rows[r].size));
    }

    public int text(int t, int n) {
        return layAnew(texts, t, n, BLANK);
    }

    public int put(int t, int i, int v) {
        int refusal = refusePlace(texts, t, i);
        if (refusal != FINE) {
            return refusal;
        }
        int was = texts[t].cells[i];
        texts[t].cells[i] = (byte) v;
        return was + 1000;
    }

    public int fault(int t) {
        int refusal = refuseStrip(texts, t);
        return refusal != FINE ? refusal : reader.read(texts[t]);
    }

    public int night(int t) {
        int refusal = refuseStrip(texts, t);
        if (refusal != FINE) {
            return refusal;
        }
        if (reader.read(texts[t]) != NONE) {
            return STATE;
        }
        table.takeOver(reader.draft);
        fight.begin(reader.startShape, reader.startFire);
        for (int k = 0; k < KEPT; k++) {
            kept[k].there = false;
        }
        return table.shapes;
    }

    public int shape(int i, int what) {
        if (!within(i, table.shapes) || !within(what, 4)) {
            return BAD;
        }
        return tell(table.aboutShape(i, what));
    }

    public int change(int k, int what) {
        if (!within(k, table.changes) || !within(what, 4)) {
            return BAD;
        }
        return tell(aboutChange(k, what));
    }

    public int mark(int i, int kind) {
        if (!within(i, table.shapes) || kind < GRAIN || kind > MAN) {
            return BAD;
        }
        if (!table.isOf(i, kind)) {
            return find(UNLIKE);
        }
        switch (kind) {
            case GRAIN: return table.cheapestInto(i);
            case BEES: return fight.whoUsed(i);
            case BEAST: return table.changesFrom(i);
            case SWARM: return Integer.bitCount(table.beatersOf(i));
            default: return table.beastsToldToBeat(i);
        }
    }

    public int fighter(int w, int what) {
        if (!isFighter(w) || !within(what, 4)) {
            return BAD;
        }
        return tell(fight.sides[w].about(what));
    }

    public int teach(int w, int k, int is) {
        if (!isFighter(w) || !within(k, table.changes) || !within(is, 2)) {
            return BAD;
        }
        Side side = fight.sides[w];
        int was = bit(side.knows, k);
        side.knows = withBit(side.knows, k, is);
        return was;
    }

    public int fire(int w, int v) {
        if (!isFighter(w) || v < 0 || v > MOST_FIRE) {
            return BAD;
        }
        int was = fight.sides[w].fire;
        fight.sides[w].fire = v;
        return was;
    }

    public int beat(int i, int j, int is) {
        if (!within(i, table.shapes) || !within(j, table.shapes) || i == j || !within(is, 2)) {
            return BAD;
        }
        int was = bit(table.told[i], j);
        table.told[i] = withBit(table.told[i], j, is);
        return was;
    }

    // ---- 2 changes done

    public int can(int w) {
        return isFighter(w) ? fight.options(w) : BAD;
    }

    public int turn() {
        if (!fight.there) {
            return STATE;
        }
        int who = fight.mover();
        lastAsked = fight.options(who) == 0 ? 1 : 0;
        return who;
    }

    public int go(int k) {
        if (!within(k, table.changes)) {
            return BAD;
        }
        int takes = fight.takes(fight.mover(), k);
        if (takes == 0) {
            return STATE;
        }
        return fight.perform(k, takes) ? takes : FULL;
    }

    public int undo(int n) {
        return n < 0 || n > fight.size ? BAD : fight.takeBack(n);
    }

    public int told(int r) {
        if (!within(r, ROWS)) {
            return BAD;
        }
        rows[r].setTo(fight.done, fight.size);
        return fight.size;
    }

    public int keep(int k) {
        if (!within(k, KEPT)) {
            return BAD;
        }
        if (!fight.there) {
            return STATE;
        }
        kept[k].takeOver(fight);
        return fight.size;
    }

    public int on(int k) {
        if (!within(k, KEPT)) {
            return BAD;
        }
        if (!kept[k].there) {
            return find(NOTHING);
        }
        fight.takeOver(kept[k]);
        return fight.size;
    }

    // ---- 3 the fight solved

    public int wins() {
        if (!fight.there) {
            return STATE;
        }
        lastAsked = search.firstWinning();
        return lastAsked == NONE ? 0 : 1;
    }

    public int ends() {
        if (!fight.there) {
            return STATE;
        }
        int length = search.length();
        lastAsked = (fight.mover() + length) & 1;
        return length;
    }

    public int line(int r) {
        if (!within(r, ROWS)) {
            return BAD;
        }
        if (!fight.there) {
            return STATE;
        }
        search.bestLine(rows[r]);
        return rows[r].size;
    }

    public int least(int w) {
        return isFighter(w) ? search.leastFire(w) : BAD;
    }

    public int learn(int w) {
        return isFighter(w) ? search.firstToLearn(w) : BAD;
    }

    public int needs(int w) {
        return isFighter(w) ? search.needed(w) : BAD;
    }

    public int lines(int n) {
        if (n < 0 || n > MOST_LINED) {
            return BAD;
        }
        if (!fight.there) {
            return STATE;
        }
        int all = search.countRows(n);
        lastAsked = search.endedRows;
        return all;
    }

    // ---- 4 fights told

    public int judge(int r) {
        if (!within(r, ROWS)) {
            return BAD;
        }
        int refusal = refuseTold(r, MOST_JUDGED, table.changes);
        if (refusal != FINE) {
            return refusal;
        }
        int start = fight.packed();
        int could = fight.follow(rows[r]);
        int who = (fight.mover() + could) & 1;
        lastAsked = fight.options(who) == 0 ? who : NONE;
        fight.unpack(start);
        return could;
    }

    public int shown(int r, int to) {
        if (!within(r, ROWS) || !within(to, ROWS)) {
            return BAD;
        }
        int refusal = refuseTold(r, MOST_SHOWN, table.shapes);
        if (refusal != FINE) {
            return refusal;
        }
        showing.see(rows[r]);
        int ways = showing.countWays();
        if (ways > 0) {
            showing.firstWay(rows[to]);
        }
        return ways;
    }

    public int must(int w, int r) {
        if (!within(w, 2) || !within(r, ROWS)) {
            return BAD;
        }
        int refusal = refuseTold(r, MOST_SHOWN, table.shapes);
        if (refusal != FINE) {
            return refusal;
        }
        showing.see(rows[r]);
        return showing.inAllWays(w);
    }

    // ---- 5 lots

    public int odds() {
        if (!fight.there) {
            return STATE;
        }
        tellChance(lottery.chanceByLots());
        return 1;
    }

    public int hopes() {
        if (!fight.there) {
            return STATE;
        }
        tellChance(lottery.bestChance());
        lastAsked = lottery.bestChange;
        return 1;
    }

    public int lots(int n, int seed) {
        if (n < 1 || n > MOST_LOTS || seed < 1 || seed >= LOT_MODULUS) {
            return BAD;
        }
        if (!fight.there) {
            return STATE;
        }
        return fight.size + n > MOST_DONE ? FULL : lottery.draw(n, seed);
    }

    // ---- 6 tables

    public int rings() {
        int rings = patterns.countRings();
        lastAsked = patterns.which;
        return rings;
    }

    public int cover() {
        int fewest = patterns.smallestCover();
        lastAsked = patterns.which;
        return fewest;
    }

    public int alike() {
        int ways = patterns.countAlike();
        lastAsked = patterns.which;
        return ways;
    }

    public int best() {
        if (table.shapes == 0) {
            return NONE;
        }
        int first = patterns.firstBest();
        lastAsked = table.lead(first);
        return first;
    }

    // ---- 7 what is told

    public int asked() {
        return lastAsked;
    }

    public long upper() {
        return chanceUpper;
    }

    public long lower() {
        return chanceLower;
    }

    public int count(int what) {
        switch (what) {
            case 0: return table.shapes;
            case 1: return table.changes;
            case 2: return fight.size;
            case 3: return table.countOf(GRAIN);
            case 4: return table.countOf(BEES);
            case 5: return fight.sides[0].fire + fight.sides[1].fire;
            case 6: return countThere(rows);
            case 7: return countThere(texts);
            case 8: return countKept();
            default: return BAD;
        }
    }

    public int finding() {
        return lastFound;
    }

    public int findings(int f) {
        return f < NOTHING || f > SIZE ? BAD : foundTimes[f];
    }

    public long digest() {
        long h = 17;
        for (int what = 0; what <= 8; what++) {
            h = 31 * h + count(what);
        }
        h = digestNight(h);
        for (int k = 0; k < KEPT; k++) {
            h = 31 * h + (kept[k].there ? kept[k].size : -1);
        }
        for (int r = 0; r < ROWS; r++) {
            h = rows[r].mixInto(h);
        }
        for (int t = 0; t < TEXTS; t++) {
            h = texts[t].mixInto(h);
        }
        return h;
    }

    private long digestNight(long before) {
        long h = before;
        for (int i = 0; i < table.shapes * 4; i++) {
            h = 31 * h + table.aboutShape(i / 4, i % 4);
        }
        for (int k = 0; k < table.changes * 4; k++) {
            h = 31 * h + aboutChange(k / 4, k % 4);
        }
        if (fight.there) {
            for (int w = 0; w < 8; w++) {
                h = 31 * h + fight.sides[w / 4].about(w % 4);
            }
        }
        for (int d = 0; d < fight.size; d++) {
            h = 31 * h + fight.done[d];
        }
        return h;
    }

    // ---- what several calls share

    private static boolean within(int number, int end) {
        return number >= 0 && number < end;
    }

    private static int bit(int bits, int place) {
        return bits >> place & 1;
    }

    private static int withBit(int bits, int place, int is) {
        return is == 1 ? bits | 1 << place : bits & ~(1 << place);
    }

    private boolean isFighter(int w) {
        return fight.there && within(w, 2);
    }

    private int find(int which) {
        lastFound = which;
        foundTimes[which]++;
        return FINDING;
    }

    private int tell(int value) {
        lastAsked = value;
        return 1;
    }

    private void tellChance(long parts) {
        long shared = greatestShared(parts, Lottery.WHOLE);
        chanceUpper = parts / shared;
        chanceLower = Lottery.WHOLE / shared;
    }

    /** Of parts >= 0 and whole > 0; the rest shrinks by half in two rounds, so 128 rounds are plenty. */
    private static long greatestShared(long parts, long whole) {
        long a = whole;
        long b = parts;
        for (int round = 0; round < 128 && b != 0; round++) {
            long rest = a % b;
            a = b;
            b = rest;
        }
        return Math.max(a, 1);
    }

    private int layAnew(Strip[] strips, int s, int n, int value) {
        if (!within(s, strips.length) || n > strips[s].cells.length) {
            return BAD;
        }
        if (n < 0) {
            return find(SIZE);
        }
        strips[s].fillAnew(n, value);
        return n;
    }

    private int refuseStrip(Strip[] strips, int s) {
        if (!within(s, strips.length)) {
            return BAD;
        }
        return strips[s].size < 0 ? find(NOTHING) : FINE;
    }

    private int refusePlace(Strip[] strips, int s, int i) {
        int refusal = refuseStrip(strips, s);
        if (refusal != FINE) {
            return refusal;
        }
        return within(i, strips[s].size) ? FINE : find(BEYOND);
    }

    /** Why a ROW (whose number is one) can't be followed: its numbers have to be below an end. */
    private int refuseTold(int r, int most, int end) {
        if (!fight.there) {
            return STATE;
        }
        if (rows[r].size < 0) {
            return find(NOTHING);
        }
        if (rows[r].size > most) {
            return find(SIZE);
        }
        return rows[r].allWithin(end) ? FINE : find(UNLIKE);
    }

    private int aboutChange(int k, int what) {
        switch (what) {
            case 0: return table.from[k];
            case 1: return table.into[k];
            case 2: return table.cost[k];
            default: return fight.whoKnows(k);
        }
    }

    private static int countThere(Strip[] strips) {
        int there = 0;
        for (int s = 0; s < strips.length; s++) {
            there += strips[s].size >= 0 ? 1 : 0;
        }
        return there;
    }

    private int countKept() {
        int there = 0;
        for (int k = 0; k < KEPT; k++) {
            there += kept[k].there ? 1 : 0;
        }
        return there;
    }

    /** A ROW or a TEXT: its room is made once and used again; size -1 says that it is missing. */
    private static final class Strip {
        private final int[] cells;
        private int size = -1;

        private Strip(int most) {
            cells = new int[most];
        }

        private void fillAnew(int n, int value) {
            size = n;
            Arrays.fill(cells, 0, n, value);
        }

        private void setTo(int[] from, int n) {
            size = n;
            System.arraycopy(from, 0, cells, 0, n);
        }

        private boolean holds(int from, int n) {
            return from >= 0 && n <= size && from <= size - n;
        }

        private boolean allWithin(int end) {
            for (int i = 0; i < size; i++) {
                if (!within(cells[i], end)) {
                    return false;
                }
            }
            return true;
        }

        private long sum() {
            long sum = 0;
            for (int i = 0; i < size; i++) {
                sum += cells[i];
            }
            return sum;
        }

        private long mixInto(long before) {
            long h = 31 * before + size;
            for (int i = 0; i < size; i++) {
                h = 31 * h + cells[i];
            }
            return h;
        }
    }

    /** The SHAPES and CHANGES of a NIGHT, and who is told to beat whom. */
    private static final class Table {
        private int shapes = 0;
        private final int[] kinds = new int[MOST_SHAPES];
        private final int[] told = new int[MOST_SHAPES];
        private int changes = 0;
        private final int[] from = new int[MOST_CHANGES];
        private final int[] into = new int[MOST_CHANGES];
        private final int[] cost = new int[MOST_CHANGES];

        /** A draft's figures may name SHAPES that are not there, or the SHAPE itself; they end here. */
        private void takeOver(Table draft) {
            shapes = draft.shapes;
            changes = draft.changes;
            for (int i = 0; i < shapes; i++) {
                kinds[i] = draft.kinds[i];
                told[i] = draft.told[i] & ((1 << shapes) - 1) & ~(1 << i);
            }
            System.arraycopy(draft.from, 0, from, 0, changes);
            System.arraycopy(draft.into, 0, into, 0, changes);
            System.arraycopy(draft.cost, 0, cost, 0, changes);
        }

        private boolean isOf(int i, int kind) {
            return kinds[i] == kind || ABOVE[kinds[i]] == kind;
        }

        private boolean beats(int i, int j) {
            return bit(told[i], j) == 1 && !(kinds[i] == BEAST && kinds[j] == MAN);
        }

        private int beatenBy(int i) {
            int bits = 0;
            for (int j = 0; j < shapes; j++) {
                bits |= beats(i, j) ? 1 << j : 0;
            }
            return bits;
        }

        private int beatersOf(int i) {
            int bits = 0;
            for (int j = 0; j < shapes; j++) {
                bits |= beats(j, i) ? 1 << j : 0;
            }
            return bits;
        }

        private int lead(int i) {
            return Integer.bitCount(beatenBy(i)) - Integer.bitCount(beatersOf(i));
        }

        private int aboutShape(int i, int what) {
            switch (what) {
                case 0: return kinds[i];
                case 1: return beatenBy(i);
                case 2: return beatersOf(i);
                default: return changesInto(i);
            }
        }

        private int changesFrom(int i) {
            int many = 0;
            for (int k = 0; k < changes; k++) {
                many += from[k] == i ? 1 : 0;
            }
            return many;
        }

        private int changesInto(int i) {
            int many = 0;
            for (int k = 0; k < changes; k++) {
                many += into[k] == i ? 1 : 0;
            }
            return many;
        }

        private int cheapestInto(int i) {
            int cheapest = NONE;
            for (int k = 0; k < changes; k++) {
                if (into[k] == i && (cheapest == NONE || cost[k] < cheapest)) {
                    cheapest = cost[k];
                }
            }
            return cheapest;
        }

        private int beastsToldToBeat(int i) {
            int many = 0;
            for (int j = 0; j < shapes; j++) {
                many += kinds[j] == BEAST ? bit(told[j], i) : 0;
            }
            return many;
        }

        private int countOf(int kind) {
            int many = 0;
            for (int i = 0; i < shapes; i++) {
                many += isOf(i, kind) ? 1 : 0;
            }
            return many;
        }

        /** What a CHANGE TAKES, if the other FIGHTER is that SHAPE. */
        private int price(int k, int other) {
            int takes = cost[k];
            takes -= isOf(into[k], GRAIN) ? 1 : 0;
            takes += kinds[from[k]] == BEAST ? 1 : 0;
            takes += kinds[other] == SWARM ? 1 : 0;
            return Math.max(takes, 1);
        }
    }

    /** Reads a TEXT into a draft, so that a FAULT leaves the NIGHT as it is. */
    private static final class Reader {
        private static final int LETTER_CHANGE = 120, LETTER_FIGHTER = 102, FIGURE_0 = 48;

        private final Table draft = new Table();
        private final int[] startShape = new int[2];
        private final int[] startFire = new int[2];
        private int fighters = 0;
        private int place = 0;

        /** The FAULT of a TEXT, or NONE. Each item leaves the place behind it, or at the FAULT. */
        private int read(Strip strip) {
            draft.shapes = 0;
            draft.changes = 0;
            fighters = 0;
            place = 0;
            for (int step = 0; step < TEXT_SIZE && place < strip.size; step++) {
                if (strip.cells[place] == BLANK) {
                    place++;
                } else if (!readItem(strip, strip.cells[place])) {
                    return place;
                }
            }
            return fighters == 2 ? NONE : strip.size;
        }

        private boolean readItem(Strip strip, int letter) {
            if (letter == LETTER_CHANGE) {
                return readChange(strip);
            }
            if (letter == LETTER_FIGHTER) {
                return readFighter(strip);
            }
            for (int kind = 0; kind < LETTERS.length; kind++) {
                if (LETTERS[kind] == letter) {
                    return readShape(strip, kind);
                }
            }
            return false;
        }

        private boolean readShape(Strip strip, int kind) {
            if (draft.changes > 0 || fighters > 0 || draft.shapes == MOST_SHAPES) {
                return false;
            }
            place++;
            int bits = 0;
            for (int figure = 0; figure < MOST_SHAPES; figure++) {
                if (figureFrom(strip, figure, figure) == figure) {
                    bits |= 1 << figure;
                    place++;
                }
            }
            draft.kinds[draft.shapes] = kind;
            draft.told[draft.shapes] = bits;
            draft.shapes++;
            return true;
        }

        private boolean readChange(Strip strip) {
            if (draft.shapes == 0 || fighters > 0 || draft.changes == MOST_CHANGES) {
                return false;
            }
            place++;
            int from = figureFrom(strip, 0, draft.shapes - 1);
            if (from < 0 || draft.changesFrom(from) == MOST_FROM_ONE) {
                return false;
            }
            place++;
            int into = figureFrom(strip, 0, draft.shapes - 1);
            if (into < 0 || into == from) {
                return false;
            }
            place++;
            int cost = figureFrom(strip, 1, MOST_COST);
            if (cost < 0) {
                return false;
            }
            place++;
            draft.from[draft.changes] = from;
            draft.into[draft.changes] = into;
            draft.cost[draft.changes] = cost;
            draft.changes++;
            return true;
        }

        private boolean readFighter(Strip strip) {
            if (draft.shapes == 0 || fighters == 2) {
                return false;
            }
            place++;
            int shape = figureFrom(strip, 0, draft.shapes - 1);
            if (shape < 0) {
                return false;
            }
            place++;
            int fire = figureFrom(strip, 0, MOST_FIRE);
            if (fire < 0) {
                return false;
            }
            place++;
            startShape[fighters] = shape;
            startFire[fighters] = fire;
            fighters++;
            return true;
        }

        /** The figure at the place, or -1, if there is none from the least to the most. */
        private int figureFrom(Strip strip, int least, int most) {
            if (place >= strip.size) {
                return -1;
            }
            int figure = strip.cells[place] - FIGURE_0;
            return figure >= least && figure <= most ? figure : -1;
        }
    }

    /** One FIGHTER. */
    private static final class Side {
        private int shape = 0;
        private int fire = 0;
        private int used = 0;
        private int knows = 0;

        private void takeOver(Side other) {
            shape = other.shape;
            fire = other.fire;
            used = other.used;
            knows = other.knows;
        }

        private int about(int what) {
            switch (what) {
                case 0: return shape;
                case 1: return fire;
                case 2: return used;
                default: return knows;
            }
        }

        /** SHAPE, FIRE and USED in 11 bits: these are what CHANGES change. */
        private int packed() {
            return (shape << 3 | fire) << 5 | used;
        }

        private void unpack(int bits) {
            shape = bits >> 8 & 7;
            fire = bits >> 5 & 7;
            used = bits & 31;
        }
    }

    /** Both FIGHTERS and the CHANGES done; without FIGHTERS (or not kept), if it isn't there. */
    private static final class Fight {
        private final Table table;
        private boolean there = false;
        private final Side[] sides = {new Side(), new Side()};
        private final int[] done = new int[MOST_DONE];
        private final int[] ahead = new int[MOST_DONE];
        private int size = 0;

        private Fight(Table table) {
            this.table = table;
        }

        private void begin(int[] shapes, int[] fires) {
            there = true;
            size = 0;
            for (int w = 0; w < 2; w++) {
                sides[w].shape = shapes[w];
                sides[w].fire = fires[w];
                sides[w].used = 1 << shapes[w];
                sides[w].knows = (1 << table.changes) - 1;
            }
        }

        private void takeOver(Fight other) {
            there = other.there;
            size = other.size;
            sides[0].takeOver(other.sides[0]);
            sides[1].takeOver(other.sides[1]);
            System.arraycopy(other.done, 0, done, 0, size);
            System.arraycopy(other.ahead, 0, ahead, 0, size);
        }

        private int mover() {
            return size & 1;
        }

        private int packed() {
            return sides[0].packed() << 11 | sides[1].packed();
        }

        private void unpack(int bits) {
            sides[0].unpack(bits >> 11);
            sides[1].unpack(bits & 2047);
        }

        /** What a CHANGE TAKES, if it CAN BE for a FIGHTER, else 0. */
        private int takes(int who, int k) {
            Side side = sides[who];
            if (bit(side.knows, k) == 0 || table.from[k] != side.shape) {
                return 0;
            }
            int into = table.into[k];
            int other = sides[1 - who].shape;
            if (bit(side.used, into) == 1 && !table.isOf(into, BEES) || !table.beats(into, other)) {
                return 0;
            }
            int takes = table.price(k, other);
            return takes <= side.fire ? takes : 0;
        }

        private int options(int who) {
            int bits = 0;
            for (int k = 0; k < table.changes; k++) {
                bits |= takes(who, k) > 0 ? 1 << k : 0;
            }
            return bits;
        }

        /** A CHANGE that is only thought of: what is done so far stays as it is. */
        private void step(int who, int k, int takes) {
            Side side = sides[who];
            side.shape = table.into[k];
            side.used |= 1 << side.shape;
            side.fire -= takes;
        }

        private boolean perform(int k, int takes) {
            if (size >= MOST_DONE) {
                return false;
            }
            done[size] = k;
            ahead[size] = packed();
            step(mover(), k, takes);
            size++;
            return true;
        }

        private int takeBack(int n) {
            int undone = size - n;
            if (undone > 0) {
                unpack(ahead[n]);
                size = n;
            }
            return undone;
        }

        /** Thinks of a ROW's CHANGES till one can't be: how many could. */
        private int follow(Strip row) {
            for (int i = 0; i < row.size; i++) {
                int who = (mover() + i) & 1;
                int takes = takes(who, row.cells[i]);
                if (takes == 0) {
                    return i;
                }
                step(who, row.cells[i], takes);
            }
            return row.size;
        }

        private int whoUsed(int shape) {
            return bit(sides[0].used, shape) | bit(sides[1].used, shape) << 1;
        }

        private int whoKnows(int k) {
            return bit(sides[0].knows, k) | bit(sides[1].knows, k) << 1;
        }
    }

    /** Values of positions met in one search: many rows of CHANGES lead to one position. */
    private static final class Memo {
        private static final int SLOT_BITS = 11, SLOTS = 1 << SLOT_BITS, PROBES = 16;
        private static final int SPREAD = 0x9E3779B1;

        private final long[] keys = new long[SLOTS];
        private final long[] values = new long[SLOTS];
        private long era = 0;

        /** What an older era left counts as free, so that nothing has to be wiped. */
        private void forget() {
            era++;
        }

        /** 22 bits for the FIGHTERS, one for the turn, and the era above them. */
        private long keyOf(int position, int who) {
            return era << 32 | position << 1 | who;
        }

        /** The slot of a key or a free one for it; -1: this part is full, and the value isn't kept. */
        private int slotFor(long key) {
            int slot = (int) key * SPREAD >>> 32 - SLOT_BITS;
            for (int probe = 0; probe < PROBES; probe++) {
                if (keys[slot] == key || keys[slot] >>> 32 != era) {
                    return slot;
                }
                slot = slot + 1 & SLOTS - 1;
            }
            return -1;
        }

        private boolean has(int slot, long key) {
            return slot >= 0 && keys[slot] == key;
        }

        private void store(long key, long value) {
            int slot = slotFor(key);
            if (slot >= 0) {
                keys[slot] = key;
                values[slot] = value;
            }
        }
    }

    /** The fight from as it is, each as well as can be. */
    private static final class Search {
        /** Both have FIRE for five CHANGES at most, since each TAKES 1 at least. */
        private static final int DEEPEST = 2 * MOST_FIRE;

        private final Fight fight;
        private final Table table;
        private final Memo memo;
        private int endedRows = 0;

        private Search(Fight fight, Memo memo) {
            this.fight = fight;
            this.memo = memo;
            this.table = fight.table;
        }

        private int length() {
            memo.forget();
            return endsIn(fight.mover(), 0);
        }

        /** In how many CHANGES it ends; an odd number says that who is to CHANGE wins. */
        private int endsIn(int who, int depth) {
            if (depth >= DEEPEST) {
                return 0;
            }
            long key = memo.keyOf(fight.packed(), who);
            int slot = memo.slotFor(key);
            if (memo.has(slot, key)) {
                return (int) memo.values[slot];
            }
            int best = 0;
            for (int k = 0; k < table.changes; k++) {
                int takes = fight.takes(who, k);
                if (takes > 0) {
                    best = better(best, 1 + endsBehind(who, k, takes, depth));
                }
            }
            memo.store(key, best);
            return best;
        }

        private int endsBehind(int who, int k, int takes, int depth) {
            int before = fight.packed();
            fight.step(who, k, takes);
            int length = endsIn(1 - who, depth + 1);
            fight.unpack(before);
            return length;
        }

        /** A win (odd) before a loss, a short win before a long one, a long loss before a short one. */
        private static int better(int best, int next) {
            boolean nextWins = (next & 1) == 1;
            if (nextWins != ((best & 1) == 1)) {
                return nextWins ? next : best;
            }
            return nextWins ? Math.min(best, next) : Math.max(best, next);
        }

        private int firstWinning() {
            memo.forget();
            int who = fight.mover();
            for (int k = 0; k < table.changes; k++) {
                int takes = fight.takes(who, k);
                if (takes > 0 && (endsBehind(who, k, takes, 0) & 1) == 0) {
                    return k;
                }
            }
            return NONE;
        }

        private void bestLine(Strip row) {
            int start = fight.packed();
            int length = length();
            row.fillAnew(length, 0);
            for (int i = 0; i < length; i++) {
                int who = (fight.mover() + i) & 1;
                int k = firstWithRest(who, length - 1 - i, i);
                row.cells[i] = k;
                fight.step(who, k, fight.takes(who, k));
            }
            fight.unpack(start);
        }

        /** The first CHANGE behind which it ends in so many more; the length told that there is one. */
        private int firstWithRest(int who, int rest, int depth) {
            for (int k = 0; k < table.changes; k++) {
                int takes = fight.takes(who, k);
                if (takes > 0 && endsBehind(who, k, takes, depth) == rest) {
                    return k;
                }
            }
            return 0;
        }

        private boolean isWonBy(int w) {
            memo.forget();
            int who = fight.mover();
            boolean moverWins = (endsIn(who, 0) & 1) == 1;
            return moverWins == (w == who);
        }

        private int leastFire(int w) {
            Side side = fight.sides[w];
            int was = side.fire;
            int least = NONE;
            for (int v = 0; v <= MOST_FIRE && least == NONE; v++) {
                side.fire = v;
                least = isWonBy(w) ? v : NONE;
            }
            side.fire = was;
            return least;
        }

        private int firstToLearn(int w) {
            if (isWonBy(w)) {
                return NONE;
            }
            Side side = fight.sides[w];
            int knows = side.knows;
            int first = NONE;
            for (int k = 0; k < table.changes && first == NONE; k++) {
                side.knows = knows | 1 << k;
                first = bit(knows, k) == 0 && isWonBy(w) ? k : NONE;
            }
            side.knows = knows;
            return first;
        }

        private int needed(int w) {
            if (!isWonBy(w)) {
                return 0;
            }
            Side side = fight.sides[w];
            int knows = side.knows;
            int bits = 0;
            for (int k = 0; k < table.changes; k++) {
                side.knows = knows & ~(1 << k);
                bits |= bit(knows, k) == 1 && !isWonBy(w) ? 1 << k : 0;
            }
            side.knows = knows;
            return bits;
        }

        private int countRows(int n) {
            endedRows = 0;
            return rowsFrom(fight.mover(), n);
        }

        private int rowsFrom(int who, int left) {
            if (left <= 0) {
                endedRows += fight.options(who) == 0 ? 1 : 0;
                return 1;
            }
            int all = 0;
            for (int k = 0; k < table.changes; k++) {
                int takes = fight.takes(who, k);
                if (takes > 0) {
                    int before = fight.packed();
                    fight.step(who, k, takes);
                    all += rowsFrom(1 - who, left - 1);
                    fight.unpack(before);
                }
            }
            return all;
        }
    }

    /** Chances BY LOTS, in parts of a whole. */
    private static final class Lottery {
        /** 12 to the 10th: ten CHANGES at most, each one of 1 to 4, divide it without a rest. */
        private static final long WHOLE = 61917364224L;

        private final Fight fight;
        private final Table table;
        private final Memo memo;
        private int chooser = NONE;
        private int bestChange = NONE;

        private Lottery(Fight fight, Memo memo) {
            this.fight = fight;
            this.memo = memo;
            this.table = fight.table;
        }

        private long chanceByLots() {
            memo.forget();
            chooser = NONE;
            return chance(fight.mover(), 0);
        }

        private long bestChance() {
            memo.forget();
            chooser = fight.mover();
            bestChange = NONE;
            long best = 0;
            for (int k = 0; k < table.changes; k++) {
                int takes = fight.takes(chooser, k);
                if (takes > 0) {
                    long next = chanceBy(chooser, k, takes, 0);
                    if (bestChange == NONE || next > best) {
                        best = next;
                        bestChange = k;
                    }
                }
            }
            return best;
        }

        /** The chances of who is to CHANGE: the best for who chooses, the mean for the other one. */
        private long chance(int who, int depth) {
            if (depth >= Search.DEEPEST) {
                return 0;
            }
            long key = memo.keyOf(fight.packed(), who);
            int slot = memo.slotFor(key);
            if (memo.has(slot, key)) {
                return memo.values[slot];
            }
            long best = 0;
            long sum = 0;
            int many = 0;
            for (int k = 0; k < table.changes; k++) {
                int takes = fight.takes(who, k);
                if (takes > 0) {
                    long next = chanceBy(who, k, takes, depth);
                    best = Math.max(best, next);
                    sum += next;
                    many++;
                }
            }
            long value = who == chooser || many == 0 ? best : sum / many;
            memo.store(key, value);
            return value;
        }

        private long chanceBy(int who, int k, int takes, int depth) {
            int before = fight.packed();
            fight.step(who, k, takes);
            long others = chance(1 - who, depth + 1);
            fight.unpack(before);
            return WHOLE - others;
        }

        /** Truly does up to n CHANGES; the caller has seen to it that there is room for them. */
        private int draw(int n, int seed) {
            long number = seed;
            for (int i = 0; i < n; i++) {
                int who = fight.mover();
                int options = fight.options(who);
                if (options == 0) {
                    return i;
                }
                number = number * LOT_FACTOR % LOT_MODULUS;
                int k = nthBit(options, (int) (number % Integer.bitCount(options)));
                fight.perform(k, fight.takes(who, k));
            }
            return n;
        }

        private static int nthBit(int bits, int n) {
            int left = bits;
            for (int i = 0; i < n; i++) {
                left &= left - 1;
            }
            return Integer.numberOfTrailingZeros(left);
        }
    }

    /** By which rows of CHANGES SHAPES can have been shown. */
    private static final class Showing {
        private static final int FIRES = MOST_FIRE + 1;

        private final Fight fight;
        private final Table table;
        private final int[] shapes = new int[MOST_SHOWN];
        private int size = 0;
        /** Ways by place and both FIRES: all else is the same in all rows that show the same SHAPES. */
        private final int[] ways = new int[(MOST_SHOWN + 1) * FIRES * FIRES];

        private Showing(Fight fight) {
            this.fight = fight;
            this.table = fight.table;
        }

        private void see(Strip row) {
            size = Math.min(row.size, MOST_SHOWN);
            System.arraycopy(row.cells, 0, shapes, 0, size);
        }

        private int countWays() {
            Arrays.fill(ways, -1);
            return waysFrom(0);
        }

        private int waysFrom(int place) {
            if (place >= size) {
                return 1;
            }
            int slot = (place * FIRES + fight.sides[0].fire) * FIRES + fight.sides[1].fire;
            if (ways[slot] >= 0) {
                return ways[slot];
            }
            int all = 0;
            for (int k = 0; k < table.changes; k++) {
                all += waysBy(place, k);
            }
            ways[slot] = all;
            return all;
        }

        /** In how many ways it goes on with a CHANGE at a place; 0, if that does not show the SHAPE. */
        private int waysBy(int place, int k) {
            int who = whoAt(place);
            int takes = table.into[k] == shapes[place] ? fight.takes(who, k) : 0;
            if (takes == 0) {
                return 0;
            }
            int before = fight.packed();
            fight.step(who, k, takes);
            int all = waysFrom(place + 1);
            fight.unpack(before);
            return all;
        }

        private int whoAt(int place) {
            return (fight.mover() + place) & 1;
        }

        /** The first row comes to a ROW; there has to be one, as counted just before. */
        private void firstWay(Strip row) {
            int start = fight.packed();
            row.fillAnew(size, 0);
            for (int place = 0; place < size; place++) {
                int k = firstAt(place);
                row.cells[place] = k;
                fight.step(whoAt(place), k, fight.takes(whoAt(place), k));
            }
            fight.unpack(start);
        }

        private int firstAt(int place) {
            for (int k = 0; k < table.changes; k++) {
                if (waysBy(place, k) > 0) {
                    return k;
                }
            }
            return 0;
        }

        /** A CHANGE is in all rows, if there is none for a FIGHTER who does not KNOW it. */
        private int inAllWays(int w) {
            if (countWays() == 0) {
                return 0;
            }
            Side side = fight.sides[w];
            int knows = side.knows;
            int bits = 0;
            for (int k = 0; k < table.changes; k++) {
                side.knows = knows & ~(1 << k);
                bits |= bit(knows, k) == 1 && countWays() == 0 ? 1 << k : 0;
            }
            side.knows = knows;
            return bits;
        }
    }

    /** What can be seen in who BEATS whom. */
    private static final class Patterns {
        private final Table table;
        private final int[] newPlace = new int[MOST_SHAPES];
        private int which = 0;

        private Patterns(Table table) {
            this.table = table;
        }

        private int countRings() {
            int rings = 0;
            int inRings = 0;
            for (int x = 0; x < table.shapes; x++) {
                for (int y = x + 1; y < table.shapes; y++) {
                    for (int z = x + 1; z < table.shapes; z++) {
                        if (table.beats(x, y) && table.beats(y, z) && table.beats(z, x)) {
                            rings++;
                            inRings |= 1 << x | 1 << y | 1 << z;
                        }
                    }
                }
            }
            which = (1 << table.shapes) - 1 & ~inRings;
            return rings;
        }

        private int smallestCover() {
            int everyone = (1 << table.shapes) - 1;
            int beaten = beatenByAny(everyone);
            int fewest = table.shapes;
            which = everyone;
            for (int bits = everyone; bits >= 0; bits--) {
                if (beatenByAny(bits) == beaten && Integer.bitCount(bits) <= fewest) {
                    fewest = Integer.bitCount(bits);
                    which = bits;
                }
            }
            return fewest;
        }

        private int beatenByAny(int beaters) {
            int beaten = 0;
            for (int i = 0; i < table.shapes; i++) {
                beaten |= bit(beaters, i) == 1 ? table.beatenBy(i) : 0;
            }
            return beaten;
        }

        private int countAlike() {
            which = 0;
            return placingsFrom(0, 0);
        }

        /** In how many ways SHAPES from i on find places that are not taken. */
        private int placingsFrom(int i, int taken) {
            if (i >= table.shapes) {
                noteMoved();
                return 1;
            }
            int all = 0;
            for (int p = 0; p < table.shapes; p++) {
                if (bit(taken, p) == 0 && fits(i, p)) {
                    newPlace[i] = p;
                    all += placingsFrom(i + 1, taken | 1 << p);
                }
            }
            return all;
        }

        private boolean fits(int i, int p) {
            for (int j = 0; j < i; j++) {
                int q = newPlace[j];
                if (table.beats(i, j) != table.beats(p, q) || table.beats(j, i) != table.beats(q, p)) {
                    return false;
                }
            }
            return true;
        }

        private void noteMoved() {
            for (int i = 0; i < table.shapes; i++) {
                which |= newPlace[i] != i ? 1 << newPlace[i] : 0;
            }
        }

        private int firstBest() {
            int first = 0;
            for (int i = 1; i < table.shapes; i++) {
                if (table.lead(i) > table.lead(first)) {
                    first = i;
                }
            }
            return first;
        }
    }
}
