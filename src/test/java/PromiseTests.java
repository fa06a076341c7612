/**
 * What each promise of the document asks, worked out by hand: ordinary inputs, edges, wrong inputs.
 * One method a promise (or a few that belong together); each begins with an object of its own.
 */
public final class PromiseTests {
    private static final int BAD = ShapeDuel.BAD, FULL = ShapeDuel.FULL, FINDING = ShapeDuel.FINDING;
    private static final int STATE = ShapeDuel.STATE, NONE = ShapeDuel.NONE;
    private static final int NOTHING = 1, BEYOND = 2, UNLIKE = 3, NOUGHT = 4, SIZE = 5;

    /** A ring 0 > 1 > 2 > 0; all is forced: CHANGES 0, 2, 1, 0, then FIGHTER 0 has LOST. */
    private static final String RING = "g1 s2 s0 x011x122x201x103 f05 f24";
    /** FIGHTER 0 has two CHANGES: by 0 FIGHTER 1 wins, by 1 FIGHTER 0. */
    private static final String FORK = "ss0s0s1x311x321x031f31f01";
    /** Three BEES that beat one another, with CHANGES round (0, 1, 2) and the other way (3, 4, 5). */
    private static final String HIVE = "b12b02b01x011x121x201x022x212x102f05f15";
    /** BEES that go round with four CHANGES each time, which no TEXT can outdo: ten till the end. */
    private static final String ALL_FOUR =
            "b12b02b01x101x021x211x101x021x211x101x021x211x101x021x211f15f25";
    /** Each KIND once or more: BEAST 0, MAN 1, SWARM 2, GRAIN 3, BEES 4. */
    private static final String ZOO = "a124m0w13g02b03x013x022x035x101x142x205x301x404x431 f05f25";

    private static int checks = 0;
    private static int wrong = 0;

    public static void main(String[] args) {
        constants();
        newObject();
        rowLayAtTear();
        copies();
        means();
        textPut();
        faults();
        nights();
        shapes();
        changes();
        marks();
        fighters();
        teaches();
        fires();
        beats();
        cans();
        takes();
        turns();
        goes();
        undoes();
        tolds();
        keeps();
        winsEndsLine();
        shortAndLong();
        leastLearnNeeds();
        linesOf();
        judges();
        shownMust();
        oddsHopes();
        lotsDrawn();
        ringsOf();
        covers();
        alikes();
        bests();
        askedStays();
        counts();
        findingsCounted();
        digests();
        System.out.println("PromiseTests: " + checks + " checks, " + wrong + " wrong");
        if (wrong > 0) {
            System.exit(1);
        }
    }

    private static void due(String what, long want, long got) {
        checks++;
        if (got != want) {
            wrong++;
            System.out.println(what + " answered " + got + ", due is " + want);
        }
    }

    private static void refusedBy(String what, ShapeDuel x, int finding, int got) {
        due(what, FINDING, got);
        due(what + " finding()", finding, x.finding());
    }

    private static void tells(String what, ShapeDuel x, int asked, int got) {
        due(what, 1, got);
        due(what + " asked()", asked, x.asked());
    }

    private static void answers(String what, ShapeDuel x, int answer, int asked, int got) {
        due(what, answer, got);
        due(what + " asked()", asked, x.asked());
    }

    private static void chance(String what, ShapeDuel x, long upper, long lower, int got) {
        due(what, 1, got);
        due(what + " upper()", upper, x.upper());
        due(what + " lower()", lower, x.lower());
    }

    private static void write(ShapeDuel x, int t, String s) {
        x.text(t, s.length());
        for (int i = 0; i < s.length(); i++) {
            x.put(t, i, s.charAt(i));
        }
    }

    private static ShapeDuel nightOf(String s) {
        ShapeDuel x = new ShapeDuel();
        write(x, 0, s);
        due("fault of " + s, NONE, x.fault(0));
        due("night of " + s, s.replaceAll("[xf].*|[^a-z]", "").length(), x.night(0));
        return x;
    }

    private static void rowOf(ShapeDuel x, int r, int... values) {
        x.row(r, values.length);
        for (int i = 0; i < values.length; i++) {
            x.lay(r, i, values[i]);
        }
    }

    private static void rowIs(String what, ShapeDuel x, int r, int... values) {
        for (int i = 0; i < values.length; i++) {
            tells(what + " place " + i, x, values[i], x.at(r, i));
        }
        due(what + " is not longer", FINDING, x.at(r, values.length));
    }

    private static void constants() {
        due("BAD", -1, ShapeDuel.BAD);
        due("FULL", -2, ShapeDuel.FULL);
        due("FINDING", -3, ShapeDuel.FINDING);
        due("STATE", -4, ShapeDuel.STATE);
        due("SPENT", -6, ShapeDuel.SPENT);
        due("NONE", -9, ShapeDuel.NONE);
    }

    private static void newObject() {
        ShapeDuel x = new ShapeDuel();
        for (int what = 0; what <= 8; what++) {
            due("new count " + what, 0, x.count(what));
        }
        due("new asked", 0, x.asked());
        due("new upper", 0, x.upper());
        due("new lower", 1, x.lower());
        due("new finding", 0, x.finding());
        for (int f = 1; f <= 5; f++) {
            due("new findings " + f, 0, x.findings(f));
        }
        for (int r = 0; r < 6; r++) {
            refusedBy("new at " + r, x, NOTHING, x.at(r, 0));
        }
        for (int t = 0; t < 4; t++) {
            refusedBy("new fault " + t, x, NOTHING, x.fault(t));
        }
    }

    private static void rowLayAtTear() {
        ShapeDuel x = new ShapeDuel();
        due("row of 40", 40, x.row(5, 40));
        due("row of 41", BAD, x.row(5, 41));
        due("row 6", BAD, x.row(6, 1));
        due("row -1", BAD, x.row(-1, 1));
        due("row 6 of -1: BAD comes first", BAD, x.row(6, -1));
        due("no finding yet", 0, x.finding());
        refusedBy("row of -1", x, SIZE, x.row(5, -1));
        refusedBy("row of least", x, SIZE, x.row(5, Integer.MIN_VALUE));
        tells("row as it was", x, 0, x.at(5, 39));
        tells("lay", x, 0, x.lay(5, 39, -7));
        tells("lay again", x, -7, x.lay(5, 39, Integer.MIN_VALUE));
        tells("at", x, Integer.MIN_VALUE, x.at(5, 39));
        refusedBy("lay beyond", x, BEYOND, x.lay(5, 40, 1));
        refusedBy("at beyond", x, BEYOND, x.at(5, -1));
        due("lay row 6", BAD, x.lay(6, 0, 0));
        due("at row -1", BAD, x.at(-1, 0));
        refusedBy("lay missing", x, NOTHING, x.lay(0, 0, 0));
        refusedBy("at missing", x, NOTHING, x.at(0, 99));
        due("row anew", 3, x.row(5, 3));
        due("row anew, longer", 40, x.row(5, 40));
        tells("row anew is 0", x, 0, x.at(5, 39));
        due("row of 0", 0, x.row(0, 0));
        refusedBy("at of an empty row", x, BEYOND, x.at(0, 0));
        due("tear", 1, x.tear(5));
        refusedBy("torn", x, NOTHING, x.at(5, 0));
        refusedBy("tear again", x, NOTHING, x.tear(5));
        due("tear 6", BAD, x.tear(6));
        due("tear -1", BAD, x.tear(-1));
        due("rows there", 1, x.count(6));
    }

    private static void copies() {
        ShapeDuel x = new ShapeDuel();
        rowOf(x, 0, 1, 2, 3, 4, 5);
        rowOf(x, 1, 9, 9, 9);
        due("copy", 1, x.copy(0, 2, 1, 1, 2));
        rowIs("copied", x, 1, 9, 3, 4);
        due("copy upwards in itself", 1, x.copy(0, 0, 0, 1, 4));
        rowIs("copied upwards", x, 0, 1, 1, 2, 3, 4);
        due("copy downwards in itself", 1, x.copy(0, 2, 0, 0, 3));
        rowIs("copied downwards", x, 0, 2, 3, 4, 3, 4);
        x.row(2, 0);
        due("copy none from an empty row", 1, x.copy(2, 0, 1, 0, 0));
        due("copy none to an empty row", 1, x.copy(1, 0, 2, 0, 0));
        refusedBy("copy one from an empty row", x, BEYOND, x.copy(2, 0, 1, 0, 1));
        due("copy a whole row", 1, x.copy(1, 0, 1, 0, 3));
        due("copy none at the end", 1, x.copy(0, 5, 1, 3, 0));
        refusedBy("copy none beyond the end", x, BEYOND, x.copy(0, 6, 1, 0, 0));
        refusedBy("copy too many", x, BEYOND, x.copy(0, 3, 1, 0, 3));
        refusedBy("copy to too few", x, BEYOND, x.copy(0, 0, 1, 1, 3));
        refusedBy("copy from -1", x, BEYOND, x.copy(0, -1, 1, 0, 1));
        refusedBy("copy to -1", x, BEYOND, x.copy(0, 0, 1, -1, 1));
        refusedBy("copy very many", x, BEYOND, x.copy(0, 1, 1, 0, Integer.MAX_VALUE));
        refusedBy("copy from very far", x, BEYOND, x.copy(0, Integer.MAX_VALUE, 1, 0, 1));
        refusedBy("copy -1", x, SIZE, x.copy(0, 0, 1, 0, -1));
        refusedBy("SIZE comes ahead of NOTHING", x, SIZE, x.copy(4, 0, 1, 0, -1));
        refusedBy("copy from missing", x, NOTHING, x.copy(4, 9, 1, 0, 1));
        refusedBy("copy to missing", x, NOTHING, x.copy(0, 9, 4, 0, 1));
        due("copy from row 6", BAD, x.copy(6, 0, 1, 0, -1));
        due("copy to row -1", BAD, x.copy(0, 0, -1, 0, -1));
        rowIs("as it was", x, 1, 9, 3, 4);
    }

    private static void means() {
        ShapeDuel x = new ShapeDuel();
        rowOf(x, 0, 7, 8);
        tells("mean", x, 7, x.mean(0));
        rowOf(x, 0, -7, -8);
        tells("mean cut towards 0", x, -7, x.mean(0));
        rowOf(x, 0, Integer.MAX_VALUE, Integer.MAX_VALUE, Integer.MAX_VALUE);
        tells("mean of large ones", x, Integer.MAX_VALUE, x.mean(0));
        x.row(0, 0);
        refusedBy("mean of none", x, NOUGHT, x.mean(0));
        refusedBy("mean of missing", x, NOTHING, x.mean(1));
        due("mean of row 6", BAD, x.mean(6));
        due("asked stays", Integer.MAX_VALUE, x.asked());
    }

    private static void textPut() {
        ShapeDuel x = new ShapeDuel();
        due("text of 80", 80, x.text(3, 80));
        due("text of 81", BAD, x.text(3, 81));
        due("text 4", BAD, x.text(4, 0));
        due("text -1", BAD, x.text(-1, 0));
        refusedBy("text of -1", x, SIZE, x.text(3, -1));
        due("put on a blank", 1032, x.put(3, 79, 200));
        due("put on a byte below 0", 1000 - 56, x.put(3, 79, 511));
        due("put on a byte cut", 999, x.put(3, 79, -128));
        due("put on the least byte", 872, x.put(3, 79, 383));
        due("put on the largest byte", 1127, x.put(3, 79, 0));
        due("put on 0", 1000, x.put(3, 79, 1));
        refusedBy("put beyond", x, BEYOND, x.put(3, 80, 1));
        refusedBy("put at -1", x, BEYOND, x.put(3, -1, 1));
        refusedBy("put on missing", x, NOTHING, x.put(0, 0, 1));
        due("put on text 4", BAD, x.put(4, 0, 1));
        due("text anew", 80, x.text(3, 80));
        due("text anew is blank", 1032, x.put(3, 79, 0));
        due("put is not asked", 0, x.asked());
        due("texts there", 1, x.count(7));
    }

    private static void faultIs(String s, int place) {
        ShapeDuel x = new ShapeDuel();
        write(x, 2, s);
        due("fault of '" + s + "'", place, x.fault(2));
        int night = x.night(2);
        due("night of '" + s + "'", place == NONE ? s.replaceAll("[xf].*|[^a-z]", "").length() : STATE, night);
    }

    private static void faults() {
        ShapeDuel x = new ShapeDuel();
        due("fault of text 4", BAD, x.fault(4));
        due("fault of text -1", BAD, x.fault(-1));
        refusedBy("fault of missing", x, NOTHING, x.fault(3));
        faultIs("", 0);
        faultIs("   ", 3);
        faultIs("sf05f05", NONE);
        faultIs("  s   f05   f05  ", NONE);
        faultIs("s01234f05f00", NONE);
        faultIs("s4f05f00", NONE);
        faultIs("s5f05f05", 1);
        faultIs("s12 3f05f05", 4);
        faultIs("s121f05f05", 3);
        faultIs("s11f05f05", 2);
        faultIs("S", 0);
        faultIs("sgbawf05f15", NONE);
        faultIs("mmmmmmf05f05", 5);
        faultIs("x", 0);
        faultIs(" f00", 1);
        faultIs("0", 0);
        faultIs("ssx011f05f15", NONE);
        faultIs("ssx 011f05f15", 3);
        faultIs("ssx0 11f05f15", 4);
        faultIs("ssx01 1f05f15", 5);
        faultIs("ssx011f 05f15", 7);
        faultIs("ssx011f0 5f15", 8);
        faultIs("ssx211", 3);
        faultIs("ssx021", 4);
        faultIs("ssx111", 4);
        faultIs("ssx010", 5);
        faultIs("ssx016", 5);
        faultIs("ssx015f05f00", NONE);
        faultIs("ssx0155f05f00", 6);
        faultIs("sx00", 3);
        faultIs("ssx", 3);
        faultIs("ssx0", 4);
        faultIs("ssx01", 5);
        faultIs("ssx011", 6);
        faultIs("ssx011f", 7);
        faultIs("ssx011f0", 8);
        faultIs("ssx011f05", 9);
        faultIs("ssx011f05 ", 10);
        faultIs("ssx011f05f", 10);
        faultIs("ssx011f05f0", 11);
        faultIs("ssx011f25", 7);
        faultIs("ssx011f06", 8);
        faultIs("ssx011f05f05f05", 12);
        faultIs("ssx011f05f05x011", 12);
        faultIs("ssx011f05f05s", 12);
        faultIs("ssx011f05x101f05", 9);
        faultIs("ssx011 s", 7);
        faultIs("ssf05 s", 6);
        faultIs("ssx011x012x013x014x101f00f00", NONE);
        faultIs("ssx011x012x013x014x015", 19);
        faultIs("ssssx011x021x031x011x101x121x131x101x201x211x231x201f00f00", NONE);
        faultIs("ssssx011x021x031x011x101x121x131x101x201x211x231x201 x301", 53);
        faultIs("ssssx011x021x031x011x101x121x131x101x201x211x231x201x", 52);
        ShapeDuel y = new ShapeDuel();
        write(y, 0, "sf05f05");
        write(y, 0, "sf05f0");
        due("what a longer text had behind it is gone", 6, y.fault(0));
        write(y, 0, "sf05f05");
        y.put(0, 0, 115 + 256);
        due("a byte cut is that byte", NONE, y.fault(0));
        y.put(0, 0, 115 - 128);
        due("a byte below 0", 0, y.fault(0));
    }

    private static void nights() {
        ShapeDuel x = new ShapeDuel();
        due("night of text 4", BAD, x.night(4));
        refusedBy("night of missing", x, NOTHING, x.night(0));
        write(x, 0, RING);
        due("night", 3, x.night(0));
        x.keep(0);
        x.go(0);
        x.teach(0, 1, 0);
        write(x, 1, "sz");
        due("night of a fault", STATE, x.night(1));
        due("done stays", 1, x.count(2));
        due("kept stays", 1, x.count(8));
        due("night anew", 3, x.night(0));
        due("nothing is done", 0, x.count(2));
        due("kept nights go", 0, x.count(8));
        tells("all is known", x, 15, x.fighter(0, 3));
        tells("used anew", x, 1, x.fighter(0, 2));
        refusedBy("nothing is kept", x, NOTHING, x.on(0));
        due("the turn is 0", 0, x.turn());
        write(x, 2, "s");
        due("a fault behind it", STATE, x.night(2));
        due("the night stays", 3, x.count(0));
    }

    private static void shapes() {
        ShapeDuel x = nightOf(ZOO);
        int[] kinds = {3, 5, 4, 1, 2};
        for (int i = 0; i < 5; i++) {
            tells("kind " + i, x, kinds[i], x.shape(i, 0));
        }
        tells("a beast is told to beat a man, but doesn't", x, 4 + 16, x.shape(0, 1));
        tells("a man beats a beast", x, 1, x.shape(1, 1));
        tells("a swarm beats", x, 2 + 8, x.shape(2, 1));
        tells("who beats the man", x, 4, x.shape(1, 2));
        tells("who beats the beast", x, 2 + 8 + 16, x.shape(0, 2));
        tells("changes to 0", x, 4, x.shape(0, 3));
        tells("changes to 3", x, 2, x.shape(3, 3));
        tells("changes to 1", x, 1, x.shape(1, 3));
        due("shape 5", BAD, x.shape(5, 0));
        due("shape -1", BAD, x.shape(-1, 0));
        due("shape what 4", BAD, x.shape(0, 4));
        due("shape what -1", BAD, x.shape(0, -1));
        due("asked stays", 1, x.asked());
        due("shape without a night", BAD, new ShapeDuel().shape(0, 0));
        ShapeDuel y = nightOf("s0124s0 f00f00");
        tells("of itself or of none beats nobody", y, 2, y.shape(0, 1));
        tells("and is not beaten by itself", y, 2, y.shape(0, 2));
    }

    private static void changes() {
        ShapeDuel x = nightOf(ZOO);
        tells("from", x, 0, x.change(2, 0));
        tells("into", x, 3, x.change(2, 1));
        tells("cost", x, 5, x.change(2, 2));
        tells("known by both", x, 3, x.change(2, 3));
        x.teach(0, 2, 0);
        tells("known by 1", x, 2, x.change(2, 3));
        x.teach(1, 2, 0);
        tells("known by none", x, 0, x.change(2, 3));
        tells("the last", x, 3, x.change(8, 1));
        due("change 9", BAD, x.change(9, 0));
        due("change -1", BAD, x.change(-1, 0));
        due("change what 4", BAD, x.change(0, 4));
        due("change what -1", BAD, x.change(0, -1));
        due("change without a night", BAD, new ShapeDuel().change(0, 0));
    }

    private static void marks() {
        ShapeDuel x = nightOf(ZOO);
        due("a grain", 1, x.mark(3, 1));
        due("a man as a grain", 3, x.mark(1, 1));
        due("a man", 1, x.mark(1, 5));
        due("bees", 0, x.mark(4, 2));
        due("a swarm as bees", 2, x.mark(2, 2));
        due("a swarm", 2, x.mark(2, 4));
        due("a beast", 3, x.mark(0, 3));
        refusedBy("a grain is no man", x, UNLIKE, x.mark(3, 5));
        refusedBy("bees are no swarm", x, UNLIKE, x.mark(4, 4));
        refusedBy("a beast is no grain", x, UNLIKE, x.mark(0, 1));
        refusedBy("a man is no beast", x, UNLIKE, x.mark(1, 3));
        due("kind 0", BAD, x.mark(0, 0));
        due("kind 6", BAD, x.mark(0, 6));
        due("kind -1", BAD, x.mark(0, -1));
        due("shape 5", BAD, x.mark(5, 1));
        due("shape -1", BAD, x.mark(-1, 1));
        x.beat(0, 1, 0);
        due("no beast told to beat the man", 0, x.mark(1, 5));
        due("mark is not asked", 0, x.asked());
        ShapeDuel y = nightOf("gbx015f05f05");
        due("no change leads to the grain", NONE, y.mark(0, 1));
        refusedBy("a plain bees is no beast", y, UNLIKE, y.mark(1, 3));
        ShapeDuel z = nightOf("b1b0bx021x201f05f15");
        z.beat(2, 1, 1);
        due("first used", 1, z.mark(0, 2));
        due("not used", 0, z.mark(2, 2));
        z.go(0);
        due("used by 0", 1, z.mark(2, 2));
        due("used by 1", 2, z.mark(1, 2));
    }

    private static void fighters() {
        ShapeDuel x = nightOf(RING);
        tells("shape", x, 0, x.fighter(0, 0));
        tells("fire", x, 5, x.fighter(0, 1));
        tells("used", x, 1, x.fighter(0, 2));
        tells("knows", x, 15, x.fighter(0, 3));
        tells("shape of 1", x, 2, x.fighter(1, 0));
        tells("fire of 1", x, 4, x.fighter(1, 1));
        tells("used of 1", x, 4, x.fighter(1, 2));
        x.go(0);
        tells("shape behind a change", x, 1, x.fighter(0, 0));
        tells("fire behind a change", x, 4, x.fighter(0, 1));
        tells("used behind a change", x, 3, x.fighter(0, 2));
        due("fighter 2", BAD, x.fighter(2, 0));
        due("fighter -1", BAD, x.fighter(-1, 0));
        due("fighter what 4", BAD, x.fighter(0, 4));
        due("fighter what -1", BAD, x.fighter(0, -1));
        due("fighter without a night", BAD, new ShapeDuel().fighter(0, 0));
    }

    private static void teaches() {
        ShapeDuel x = nightOf(RING);
        due("unteach", 1, x.teach(1, 2, 0));
        due("unteach again", 0, x.teach(1, 2, 0));
        tells("what is known", x, 11, x.fighter(1, 3));
        tells("the other one knows it still", x, 15, x.fighter(0, 3));
        due("teach", 0, x.teach(1, 2, 1));
        due("teach again", 1, x.teach(1, 2, 1));
        due("teach 2", BAD, x.teach(1, 2, 2));
        due("teach -1", BAD, x.teach(1, 2, -1));
        due("teach change 4", BAD, x.teach(1, 4, 0));
        due("teach change -1", BAD, x.teach(1, -1, 0));
        due("teach fighter 2", BAD, x.teach(2, 0, 0));
        due("teach fighter -1", BAD, x.teach(-1, 0, 0));
        due("teach without a night", BAD, new ShapeDuel().teach(0, 0, 0));
    }

    private static void fires() {
        ShapeDuel x = nightOf(RING);
        due("fire", 5, x.fire(0, 0));
        due("fire again", 0, x.fire(0, 5));
        due("fire of 1", 4, x.fire(1, 2));
        due("fire of both", 7, x.count(5));
        due("fire 6", BAD, x.fire(0, 6));
        due("fire -1", BAD, x.fire(0, -1));
        due("fire of fighter 2", BAD, x.fire(2, 0));
        due("fire of fighter -1", BAD, x.fire(-1, 0));
        due("fire without a night", BAD, new ShapeDuel().fire(0, 0));
        tells("fire as it was", x, 5, x.fighter(0, 1));
    }

    private static void beats() {
        ShapeDuel x = nightOf(ZOO);
        due("told", 1, x.beat(0, 1, 1));
        tells("but never beats", x, 20, x.shape(0, 1));
        due("not told", 0, x.beat(0, 3, 1));
        tells("beats now", x, 28, x.shape(0, 1));
        due("told now", 1, x.beat(0, 3, 0));
        due("not told again", 0, x.beat(0, 3, 0));
        tells("as before", x, 20, x.shape(0, 1));
        due("beat itself", BAD, x.beat(2, 2, 1));
        due("beat by 5", BAD, x.beat(5, 0, 1));
        due("beat by -1", BAD, x.beat(-1, 0, 1));
        due("beat 5", BAD, x.beat(0, 5, 1));
        due("beat -1", BAD, x.beat(0, -1, 1));
        due("beat 2", BAD, x.beat(0, 1, 2));
        due("beat 1 less", BAD, x.beat(0, 1, -1));
        due("beat without a night", BAD, new ShapeDuel().beat(0, 1, 1));
    }

    private static void cans() {
        ShapeDuel x = nightOf(RING);
        due("0 can", 1, x.can(0));
        due("1 can't, as if it were its turn", 0, x.can(1));
        due("can 2", BAD, x.can(2));
        due("can -1", BAD, x.can(-1));
        due("can without a night", BAD, new ShapeDuel().can(0));
        x.go(0);
        due("1 can now", 4, x.can(1));
        x.teach(1, 2, 0);
        due("not what one does not know", 0, x.can(1));
        x.teach(1, 2, 1);
        x.fire(1, 0);
        due("not without fire", 0, x.can(1));
        x.fire(1, 1);
        due("with just so much fire", 4, x.can(1));
        x.beat(0, 1, 0);
        due("not into what doesn't beat", 0, x.can(1));
        ShapeDuel y = nightOf("s1s0x011x101f05f15");
        due("into what is beaten by itself", 0, y.can(0));
        ShapeDuel z = nightOf(HIVE);
        due("0 into 2 alone: 1 is what the other one is", 8, z.can(0));
        z.go(3);
        z.go(5);
        due("0 into 1 alone: 0 is what the other one is", 16, z.can(0));
        z.go(4);
        due("1 into 2 alone", 8, z.can(1));
        z.go(3);
        due("too dear", 0, z.can(0));
        z.fire(0, 2);
        tells("used by 0", z, 7, z.fighter(0, 2));
        due("bees come again", 32, z.can(0));
        due("bees come again, truly", 2, z.go(5));
        ShapeDuel w = nightOf(HIVE.replace("b12", "w12"));
        w.go(3);
        w.go(5);
        w.fire(0, 5);
        w.go(4);
        w.go(3);
        due("a swarm, too", 32, w.can(0));
        ShapeDuel s = nightOf(HIVE.replace("b12", "s12"));
        s.go(3);
        s.go(5);
        s.go(4);
        s.go(3);
        s.fire(0, 5);
        due("not so others", 0, s.can(0));
    }

    private static void takes() {
        ShapeDuel x = nightOf("a1b0x015x101f05f05");
        due("from a beast 6 are too many", 0, x.can(0));
        ShapeDuel y = nightOf("a1s0g0x014x021f05f05");
        y.beat(1, 0, 1);
        due("from a beast, one more", 5, y.go(0));
        ShapeDuel g = nightOf("a1s0g0x014x021f05f05");
        due("from a beast to a grain", 1, g.go(1));
        ShapeDuel h = nightOf("s1s0g0x014x021f05f05");
        due("to a grain, 1 at least", 1, h.go(1));
        ShapeDuel m = nightOf("s1s0m0x014x025f05f05");
        due("to a man, one less", 4, m.go(1));
        ShapeDuel w = nightOf("sw0s1x024x201f05f15");
        due("against a swarm, one more", 5, w.go(0));
        ShapeDuel b = nightOf("sb0s1x024x201f05f15");
        due("against bees, no more", 4, b.go(0));
        ShapeDuel all = nightOf("aw0g1x023f05f15");
        due("all of it", 4, all.go(0));
        ShapeDuel into = nightOf("s1s0w0x023f05f05");
        due("into a swarm is no more", 3, into.go(0));
        ShapeDuel to = nightOf("s1s0a0x023f05f05");
        due("into a beast is no more", 3, to.go(0));
    }

    private static void turns() {
        ShapeDuel x = new ShapeDuel();
        due("turn without a night", STATE, x.turn());
        x = nightOf(RING);
        int[] line = {0, 2, 1, 0};
        for (int i = 0; i < 4; i++) {
            answers("turn " + i, x, i % 2, 0, x.turn());
            x.go(line[i]);
        }
        answers("turn at the end", x, 0, 1, x.turn());
    }

    private static void goes() {
        ShapeDuel x = nightOf(RING);
        due("go", 1, x.go(0));
        due("go 0 again: 1 is not so", STATE, x.go(0));
        due("go 4", BAD, x.go(4));
        due("go -1", BAD, x.go(-1));
        due("go on", 1, x.go(2));
        due("go dear", 2, x.go(1));
        due("go last", 1, x.go(0));
        due("0 was that shape already", STATE, x.go(2));
        tells("fire of 0", x, 2, x.fighter(0, 1));
        tells("fire of 1", x, 2, x.fighter(1, 1));
        due("go without a night", BAD, new ShapeDuel().go(0));
        ShapeDuel y = nightOf(HIVE);
        for (int i = 0; i < 40; i++) {
            y.fire(i % 2, 5);
            int k = Integer.numberOfTrailingZeros(y.can(i % 2));
            due("go of bees " + i, y.can(i % 2) != 0 ? 1 : 0, y.go(k) > 0 ? 1 : 0);
        }
        due("forty", 40, y.count(2));
        y.fire(0, 5);
        due("one can still", 1, y.can(0) != 0 ? 1 : 0);
        due("but it is full", FULL, y.go(Integer.numberOfTrailingZeros(y.can(0))));
        due("no change is bad ahead of full", BAD, y.go(12));
        y.fire(0, 0);
        due("can't be is ahead of full", STATE, y.go(0));
        due("lots are full", FULL, y.lots(1, 1));
        due("told has room", 40, y.told(0));
        due("undo one", 1, y.undo(39));
        due("lots of two are full", FULL, y.lots(2, 1));
        due("lots of one has room", 1, y.lots(1, 1));
    }

    private static void undoes() {
        ShapeDuel x = new ShapeDuel();
        due("undo none", 0, x.undo(0));
        due("undo 1 of none", BAD, x.undo(1));
        due("undo -1", BAD, x.undo(-1));
        x = nightOf(RING);
        x.go(0);
        x.fire(0, 1);
        x.go(2);
        x.fire(1, 0);
        x.fire(0, 3);
        x.go(1);
        x.teach(0, 3, 0);
        x.beat(2, 1, 1);
        due("undo 4", BAD, x.undo(4));
        due("undo 3", 0, x.undo(3));
        tells("nothing undone", x, 2, x.fighter(0, 0));
        due("undo 1", 2, x.undo(1));
        tells("fire as ahead of it", x, 1, x.fighter(0, 1));
        tells("fire of 1 as ahead of it", x, 4, x.fighter(1, 1));
        tells("shape of 0", x, 1, x.fighter(0, 0));
        tells("shape of 1", x, 2, x.fighter(1, 0));
        tells("used of 0", x, 3, x.fighter(0, 2));
        tells("used of 1", x, 4, x.fighter(1, 2));
        tells("what one knows stays", x, 7, x.fighter(0, 3));
        tells("who beats whom stays", x, 3, x.shape(2, 1));
        due("the turn", 1, x.turn());
        x.fire(1, 2);
        due("undo none keeps fire()", 0, x.undo(1));
        tells("fire stays", x, 2, x.fighter(1, 1));
        due("undo all", 1, x.undo(0));
        tells("fire of 0 as at first", x, 5, x.fighter(0, 1));
        tells("fire of 1 as at first", x, 4, x.fighter(1, 1));
        tells("used of 0 as at first", x, 1, x.fighter(0, 2));
    }

    private static void tolds() {
        ShapeDuel x = nightOf(RING);
        due("told none", 0, x.told(3));
        rowIs("told none", x, 3);
        x.go(0);
        x.go(2);
        x.go(1);
        x.row(3, 20);
        due("told", 3, x.told(3));
        rowIs("told", x, 3, 0, 2, 1);
        due("told 6", BAD, x.told(6));
        due("told -1", BAD, x.told(-1));
        due("told without a night", 0, new ShapeDuel().told(0));
    }

    private static void keeps() {
        ShapeDuel x = new ShapeDuel();
        due("keep without a night", STATE, x.keep(0));
        due("keep 3", BAD, x.keep(3));
        due("keep -1", BAD, x.keep(-1));
        refusedBy("on without any", x, NOTHING, x.on(2));
        due("on 3", BAD, x.on(3));
        due("on -1", BAD, x.on(-1));
        x = nightOf(RING);
        x.go(0);
        x.fire(1, 3);
        x.teach(0, 3, 0);
        due("keep", 1, x.keep(2));
        refusedBy("another place", x, NOTHING, x.on(0));
        x.go(2);
        x.fire(0, 0);
        x.teach(0, 1, 0);
        x.beat(1, 0, 1);
        due("keep what comes", 2, x.keep(0));
        due("on", 1, x.on(2));
        tells("shape of 1", x, 2, x.fighter(1, 0));
        tells("fire of 1", x, 3, x.fighter(1, 1));
        tells("fire of 0", x, 4, x.fighter(0, 1));
        tells("used of 1", x, 4, x.fighter(1, 2));
        tells("what 0 knew", x, 7, x.fighter(0, 3));
        tells("who beats whom stays", x, 5, x.shape(1, 1));
        due("turn", 1, x.turn());
        due("undo goes on behind it", 1, x.undo(0));
        tells("fire as ahead of it", x, 4, x.fighter(1, 1));
        tells("knows stays", x, 7, x.fighter(0, 3));
        due("on to the later one", 2, x.on(0));
        due("undo in it", 1, x.undo(1));
        tells("fire of 1 there", x, 3, x.fighter(1, 1));
        due("still kept as it was", 2, x.on(0));
        ShapeDuel y = nightOf(FORK);
        y.fire(1, 2);
        y.go(0);
        y.keep(1);
        y.undo(0);
        y.fire(1, 4);
        y.go(1);
        due("on to another way", 1, y.on(1));
        y.told(0);
        rowIs("the way that was kept", y, 0, 0);
        y.undo(0);
        tells("fire ahead of the way that was kept", y, 2, y.fighter(1, 1));
        due("kept ones", 2, x.count(8));
        due("keep over", 2, x.keep(2));
        due("kept ones again", 2, x.count(8));
    }

    private static void winsEndsLine() {
        ShapeDuel x = new ShapeDuel();
        due("wins without a night", STATE, x.wins());
        due("ends without a night", STATE, x.ends());
        due("line without a night", STATE, x.line(0));
        due("line 6 without a night", BAD, x.line(6));
        due("no row is made", 0, x.count(6));
        x = nightOf(RING);
        answers("0 does not win", x, 0, NONE, x.wins());
        answers("ends", x, 4, 0, x.ends());
        due("line", 4, x.line(1));
        rowIs("line", x, 1, 0, 2, 1, 0);
        due("line -1", BAD, x.line(-1));
        due("nothing is done", 0, x.count(2));
        x.go(0);
        answers("1 wins", x, 1, 2, x.wins());
        answers("ends in 3", x, 3, 0, x.ends());
        x.go(2);
        x.go(1);
        x.go(0);
        answers("lost already", x, 0, NONE, x.wins());
        answers("ended", x, 0, 0, x.ends());
        x.row(1, 7);
        due("no line", 0, x.line(1));
        rowIs("no line", x, 1);
        ShapeDuel y = nightOf(FORK);
        answers("by the second", y, 1, 1, y.wins());
        answers("in one", y, 1, 1, y.ends());
        due("line of one", 1, y.line(0));
        rowIs("line of one", y, 0, 1);
    }

    /** FIGHTER 0 wins by 0 in three, by 1 in one; who loses goes the long way, the first of those. */
    private static void shortAndLong() {
        ShapeDuel x = nightOf("s s0 s1 s0 s2 x011x031x021x141 f05f05");
        answers("the first that wins", x, 1, 0, x.wins());
        answers("the short one", x, 1, 1, x.ends());
        due("line of the short one", 1, x.line(0));
        rowIs("line of the short one", x, 0, 1);
        x.teach(0, 1, 0);
        answers("the long one", x, 3, 1, x.ends());
        x.line(0);
        rowIs("line of the long one", x, 0, 0, 2, 3);
        ShapeDuel y = nightOf("s s04 s1 s1 s23 x011x021x031x141x311x421 f05f02");
        answers("who loses makes it long", y, 5, 1, y.ends());
        due("line of who loses", 5, y.line(0));
        rowIs("line of who loses", y, 0, 0, 2, 3, 4, 5);
        y.teach(1, 2, 0);
        answers("or can't", y, 3, 1, y.ends());
        y.line(0);
        rowIs("line of who can't", y, 0, 0, 1, 3);
    }

    private static void leastLearnNeeds() {
        ShapeDuel x = nightOf(RING);
        due("least of 0", NONE, x.least(0));
        due("least of 1", 2, x.least(1));
        tells("fire as it was", x, 4, x.fighter(1, 1));
        due("needs of 0", 0, x.needs(0));
        due("needs of 1", 5, x.needs(1));
        due("learn of 0", NONE, x.learn(0));
        due("learn of 1, who wins", NONE, x.learn(1));
        x.teach(1, 0, 0);
        x.teach(1, 3, 0);
        answers("0 wins now", x, 1, 0, x.wins());
        due("learn of 1", 0, x.learn(1));
        due("needs of 0 now", 3, x.needs(0));
        due("least of 0 now", 3, x.least(0));
        due("least of 1 now", NONE, x.least(1));
        tells("known as it was", x, 6, x.fighter(1, 3));
        x.teach(1, 2, 0);
        due("one is not enough", NONE, x.learn(1));
        for (int w = -1; w <= 2; w += 3) {
            due("least " + w, BAD, x.least(w));
            due("learn " + w, BAD, x.learn(w));
            due("needs " + w, BAD, x.needs(w));
        }
        ShapeDuel y = nightOf("ssf00f00");
        due("0 has lost with any fire", NONE, y.least(0));
        due("1 wins with none", 0, y.least(1));
        due("and needs nothing", 0, y.needs(1));
        ShapeDuel d = nightOf("ss0x015f00f05");
        due("all the fire that there may be", 5, d.least(0));
        due("fire as it was, 0", 0, d.fire(0, 0));
        ShapeDuel z = nightOf("ss0s0x011x022f05f05");
        due("either is enough", 0, z.needs(0));
        z.teach(0, 0, 0);
        due("then the other one is needed", 2, z.needs(0));
        z.teach(0, 1, 0);
        due("the first to learn", 0, z.learn(0));
        z.fire(0, 0);
        due("no fire, nothing to learn", NONE, z.learn(0));
    }

    private static void linesOf() {
        ShapeDuel x = new ShapeDuel();
        due("lines without a night", STATE, x.lines(0));
        due("lines 7", BAD, x.lines(7));
        due("lines -1", BAD, x.lines(-1));
        x = nightOf(FORK);
        answers("rows of 0", x, 1, 0, x.lines(0));
        answers("rows of 1", x, 2, 1, x.lines(1));
        answers("rows of 2", x, 1, 1, x.lines(2));
        answers("rows of 3", x, 0, 0, x.lines(3));
        answers("rows of 6", x, 0, 0, x.lines(6));
        x.go(1);
        answers("the empty row ends it", x, 1, 1, x.lines(0));
        ShapeDuel y = nightOf(ALL_FOUR);
        answers("all of four", y, 4096, 0, y.lines(6));
    }

    private static void judges() {
        ShapeDuel x = new ShapeDuel();
        due("judge without a night", STATE, x.judge(0));
        due("judge 6", BAD, x.judge(6));
        due("judge -1", BAD, x.judge(-1));
        x = nightOf(RING);
        refusedBy("judge missing", x, NOTHING, x.judge(0));
        x.row(0, 13);
        x.lay(0, 0, 4);
        refusedBy("judge 13", x, SIZE, x.judge(0));
        rowOf(x, 0, 1, 4);
        refusedBy("judge no change", x, UNLIKE, x.judge(0));
        rowOf(x, 0, 0, -1);
        refusedBy("judge a change below 0", x, UNLIKE, x.judge(0));
        rowOf(x, 0, 0, 2, 1, 0);
        answers("the whole fight", x, 4, 0, x.judge(0));
        rowOf(x, 0, 0, 2, 1, 0, 2);
        answers("one more", x, 4, 0, x.judge(0));
        rowOf(x, 0, 0, 2, 2, 0);
        answers("the third can't be", x, 2, NONE, x.judge(0));
        rowOf(x, 0, 3);
        answers("the first can't be", x, 0, NONE, x.judge(0));
        rowOf(x, 0);
        answers("none told", x, 0, NONE, x.judge(0));
        rowOf(x, 0, 0, 2, 0, 0, 0, 0, 0, 0, 0, 0, 0, 0);
        answers("twelve told", x, 2, NONE, x.judge(0));
        due("nothing is done", 0, x.count(2));
        tells("nothing is changed", x, 5, x.fighter(0, 1));
        x.go(0);
        rowOf(x, 0, 2, 1, 0);
        answers("from as it is", x, 3, 0, x.judge(0));
        x.fire(1, 0);
        answers("1 has lost", x, 0, 1, x.judge(0));
    }

    private static void shownMust() {
        ShapeDuel x = new ShapeDuel();
        due("shown without a night", STATE, x.shown(0, 1));
        due("must without a night", STATE, x.must(0, 0));
        due("shown 6", BAD, x.shown(6, 1));
        due("shown to 6", BAD, x.shown(0, 6));
        due("shown -1", BAD, x.shown(-1, 1));
        due("shown to -1", BAD, x.shown(0, -1));
        due("must of 2", BAD, x.must(2, 0));
        due("must of -1", BAD, x.must(-1, 0));
        due("must 6", BAD, x.must(0, 6));
        x = nightOf("ss0s1x011x012x013x121x021f03f01");
        refusedBy("shown missing", x, NOTHING, x.shown(0, 1));
        refusedBy("must missing", x, NOTHING, x.must(0, 0));
        x.row(0, 9);
        x.lay(0, 0, 3);
        refusedBy("shown 9", x, SIZE, x.shown(0, 1));
        refusedBy("must 9", x, SIZE, x.must(0, 0));
        rowOf(x, 0, 1, 3);
        refusedBy("shown no shape", x, UNLIKE, x.shown(0, 1));
        refusedBy("must no shape", x, UNLIKE, x.must(0, 0));
        rowOf(x, 0, -1);
        refusedBy("shown a shape below 0", x, UNLIKE, x.shown(0, 1));
        rowOf(x, 0, 1, 2);
        due("shown by three rows", 3, x.shown(0, 1));
        rowIs("the first", x, 1, 0, 4);
        due("must of 0: any of three", 0, x.must(0, 0));
        due("must of 1", 16, x.must(1, 0));
        x.teach(0, 0, 0);
        due("by two", 2, x.shown(0, 1));
        rowIs("the first of two", x, 1, 1, 4);
        x.fire(0, 2);
        due("by one", 1, x.shown(0, 1));
        due("must of 0 now", 2, x.must(0, 0));
        tells("known as it was", x, 30, x.fighter(0, 3));
        x.row(2, 3);
        rowOf(x, 0, 2);
        due("by none", 0, x.shown(0, 2));
        rowIs("the row stays", x, 2, 0, 0, 0);
        due("and it may stay missing", 0, x.shown(0, 5));
        refusedBy("missing still", x, NOTHING, x.at(5, 0));
        due("must of none", 0, x.must(0, 0));
        rowOf(x, 0);
        due("nothing shown", 1, x.shown(0, 2));
        rowIs("the empty row", x, 2);
        due("must of nothing shown", 0, x.must(0, 0));
        rowOf(x, 0, 1, 2);
        due("to itself", 1, x.shown(0, 0));
        rowIs("to itself", x, 0, 1, 4);
        due("nothing is done", 0, x.count(2));
        x.go(1);
        rowOf(x, 0, 2);
        due("from who is to change on", 1, x.shown(0, 1));
        due("must of 1 alone", 16, x.must(1, 0));
        due("must of 0 no more", 0, x.must(0, 0));
        String[] dearAndCheap = {"s s0 s1 s2 x011x014x024x132 f05f05", "s s0 s1 s2 x014x011x024x132 f05f05"};
        for (int first = 0; first < 2; first++) {
            ShapeDuel z = nightOf(dearAndCheap[first]);
            rowOf(z, 0, 1, 2, 3);
            due("the dear way has no fire left", 1, z.shown(0, 1));
            rowIs("the cheap way", z, 1, first, 2, 3);
            due("must of the cheap way", 8 + (1 << first), z.must(0, 0));
        }
        ShapeDuel y = nightOf(ALL_FOUR);
        rowOf(y, 0, 0, 1, 2, 0, 1, 2, 0, 1);
        due("all of eight", 65536, y.shown(0, 1));
    }

    private static void oddsHopes() {
        ShapeDuel x = new ShapeDuel();
        due("odds without a night", STATE, x.odds());
        due("hopes without a night", STATE, x.hopes());
        x = nightOf(FORK);
        chance("odds", x, 1, 2, x.odds());
        chance("hopes", x, 1, 1, x.hopes());
        due("by the second", 1, x.asked());
        x.teach(0, 1, 0);
        chance("odds of none", x, 0, 1, x.odds());
        chance("hopes of none", x, 0, 1, x.hopes());
        due("by the first all the same", 0, x.asked());
        x.teach(0, 0, 0);
        chance("hopes of who can't", x, 0, 1, x.hopes());
        due("by none", NONE, x.asked());
        ShapeDuel y = nightOf("s1s0s0s0x011x021x031x101 f05f05");
        y.beat(0, 2, 0);
        chance("all three win", y, 1, 1, y.odds());
        ShapeDuel z = nightOf("ss0s0s0s1x411x421x431x041f41f01");
        chance("two of three", z, 2, 3, z.odds());
        chance("well, then, all", z, 1, 1, z.hopes());
        due("by the first that is best", 1, z.asked());
        ShapeDuel u = nightOf("s s04 s1 s1 s23 x011x021x031x141x311x421 f02f02");
        chance("the other one goes the long way by one lot of two", u, 1, 2, u.hopes());
        due("by 0", 0, u.asked());
        answers("who would win, if the other one went well", u, 0, NONE, u.wins());
        ShapeDuel v = nightOf(ALL_FOUR);
        chance("a long way", v, 0, 1, v.odds());
        v.fire(1, 4);
        chance("a long way won", v, 1, 1, v.odds());
    }

    private static void lotsDrawn() {
        ShapeDuel x = new ShapeDuel();
        due("lots without a night", STATE, x.lots(1, 1));
        due("lots of 0", BAD, x.lots(0, 1));
        due("lots of 21", BAD, x.lots(21, 1));
        due("lots of seed 0", BAD, x.lots(1, 0));
        due("lots of seed below 0", BAD, x.lots(1, -5));
        due("lots of the largest int", BAD, x.lots(1, Integer.MAX_VALUE));
        x = nightOf(RING);
        due("lots till none can be", 4, x.lots(20, 2147483646));
        x.told(0);
        rowIs("lots", x, 0, 0, 2, 1, 0);
        due("lots at the end", 0, x.lots(1, 1));
        ShapeDuel y = nightOf(FORK);
        due("48271 is odd", 1, y.lots(1, 1));
        y.told(0);
        rowIs("the second", y, 0, 1);
        y.undo(0);
        due("96542 is even", 2, y.lots(2, 2));
        y.told(0);
        rowIs("the first", y, 0, 0, 2);
        ShapeDuel z = nightOf(ALL_FOUR);
        z.keep(0);
        due("one lot and no more", 1, z.lots(1, 78));
        due("one is done", 1, z.count(2));
        z.on(0);
        due("three lots", 3, z.lots(3, 77));
        z.told(0);
        long number = 77;
        for (int i = 0; i < 3; i++) {
            number = number * 48271 % 2147483647;
            z.at(0, i);
            due("lot " + i + " of four, which stand three apart", number % 4, z.asked() / 3);
        }
        tells("fire is gone", z, 3, z.fighter(0, 1));
        due("lots are not asked", 3, z.asked());
    }

    private static void ringsOf() {
        ShapeDuel x = new ShapeDuel();
        answers("rings of none", x, 0, 0, x.rings());
        x = nightOf(RING);
        answers("one ring", x, 1, 0, x.rings());
        x = nightOf(HIVE);
        answers("both ways round", x, 2, 0, x.rings());
        x = nightOf("s1s2s0s0f05f05");
        answers("one outside", x, 1, 8, x.rings());
        x = nightOf("a1m2s0f05f05");
        answers("a beast beats no man", x, 0, 7, x.rings());
        x = nightOf("s1234s0234s0134s0124s0123f05f05");
        answers("all of five", x, 20, 0, x.rings());
    }

    private static void covers() {
        ShapeDuel x = new ShapeDuel();
        answers("cover of none", x, 0, 0, x.cover());
        x = nightOf("ssf05f05");
        answers("nobody is beaten", x, 0, 0, x.cover());
        x = nightOf(RING);
        answers("all are needed", x, 3, 7, x.cover());
        x = nightOf("s1s0s01s01f05f05");
        answers("one is enough, the least", x, 1, 4, x.cover());
        x = nightOf("s1s0s3s2f05f05");
        answers("four", x, 4, 15, x.cover());
        x = nightOf("s12s034s1s2s03f05f05");
        answers("two of them", x, 2, 3, x.cover());
        x = nightOf("a1mf05f05");
        answers("a man is not beaten", x, 0, 0, x.cover());
    }

    private static void alikes() {
        ShapeDuel x = new ShapeDuel();
        answers("alike of none", x, 1, 0, x.alike());
        x = nightOf(RING);
        answers("a ring turns", x, 3, 7, x.alike());
        x = nightOf(HIVE);
        answers("both ways round", x, 6, 7, x.alike());
        x = nightOf("s1s2sf05f05");
        answers("a row", x, 1, 0, x.alike());
        x = nightOf("s12ssf05f05");
        answers("two alike", x, 2, 6, x.alike());
        x = nightOf("agbwmf05f05");
        answers("kinds aside", x, 120, 31, x.alike());
        x = nightOf("a1msf05f05");
        answers("what is told does not count", x, 6, 7, x.alike());
    }

    private static void bests() {
        ShapeDuel x = new ShapeDuel();
        x.row(0, 1);
        x.lay(0, 0, 5);
        x.at(0, 0);
        due("no best", NONE, x.best());
        due("asked stays", 5, x.asked());
        x = nightOf(RING);
        answers("all alike: the first", x, 0, 0, x.best());
        x = nightOf("ss0s0f05f05");
        answers("the first of the best", x, 1, 1, x.best());
        x = nightOf("ss0s013sf05f05");
        answers("more than the one ahead", x, 2, 3, x.best());
        x = nightOf("s1s2s013s0f05f05");
        answers("two more", x, 2, 2, x.best());
        x = nightOf("sf05f05");
        answers("one alone", x, 0, 0, x.best());
        x = nightOf("a1msf05f05");
        answers("a beast beats no man", x, 0, 0, x.best());
    }

    private static void askedStays() {
        ShapeDuel x = nightOf(RING);
        tells("asked", x, 5, x.fighter(0, 1));
        x.go(0);
        x.can(0);
        x.told(0);
        x.keep(0);
        x.on(0);
        x.line(1);
        x.least(0);
        x.learn(1);
        x.needs(0);
        x.odds();
        x.mark(0, 1);
        x.count(0);
        x.undo(0);
        x.lots(1, 1);
        x.shown(0, 3);
        x.must(0, 0);
        x.fire(0, 2);
        x.beat(0, 2, 1);
        x.teach(0, 0, 1);
        x.copy(0, 0, 0, 0, 0);
        x.digest();
        due("asked stays", 5, x.asked());
        x.shape(9, 9);
        x.at(5, 0);
        x.judge(9);
        x.lines(9);
        due("asked stays when refused", 5, x.asked());
    }

    private static void counts() {
        ShapeDuel x = nightOf(ZOO);
        x.go(2);
        x.row(0, 0);
        x.row(4, 3);
        x.text(2, 0);
        x.keep(1);
        int[] want = {5, 9, x.count(2), 2, 2, x.count(5), 2, 2, 1};
        for (int what = 0; what <= 8; what++) {
            due("count " + what, want[what], x.count(what));
        }
        due("count 9", BAD, x.count(9));
        due("count -1", BAD, x.count(-1));
        ShapeDuel y = nightOf(RING);
        y.go(0);
        due("done", 1, y.count(2));
        due("fire of both", 8, y.count(5));
    }

    private static void findingsCounted() {
        ShapeDuel x = new ShapeDuel();
        x.tear(0);
        x.tear(0);
        x.row(0, 0);
        x.mean(0);
        x.at(0, 0);
        x.row(0, -1);
        due("findings of nothing", 2, x.findings(1));
        due("findings of beyond", 1, x.findings(2));
        due("findings of unlike", 0, x.findings(3));
        due("findings of nought", 1, x.findings(4));
        due("findings of size", 1, x.findings(5));
        due("the latest", SIZE, x.finding());
        due("findings 0", BAD, x.findings(0));
        due("findings 6", BAD, x.findings(6));
        x.row(9, 0);
        due("the latest stays", SIZE, x.finding());
    }

    private static long mix(long h, long... values) {
        long mixed = h;
        for (long v : values) {
            mixed = 31 * mixed + v;
        }
        return mixed;
    }

    private static void digests() {
        ShapeDuel x = new ShapeDuel();
        long h = mix(17, 0, 0, 0, 0, 0, 0, 0, 0, 0);
        h = mix(h, -1, -1, -1, -1, -1, -1, -1, -1, -1, -1, -1, -1, -1);
        due("digest of a new one", h, x.digest());
        String s = "gs0x102x011f05f02";
        write(x, 1, s);
        x.night(1);
        x.go(1);
        x.keep(2);
        x.fire(0, 3);
        x.teach(1, 0, 0);
        x.row(2, 2);
        x.lay(2, 1, -4);
        h = mix(17, 2, 2, 1, 1, 0, 5, 1, 1, 1);
        h = mix(h, 1, 0, 2, 1, 0, 1, 0, 1);
        h = mix(h, 1, 0, 2, 1, 0, 1, 1, 3);
        h = mix(h, 1, 3, 3, 3, 0, 2, 1, 2);
        h = mix(h, 1);
        h = mix(h, -1, -1, 1);
        h = mix(h, -1, -1, 2, 0, -4, -1, -1, -1);
        h = mix(h, -1, s.length());
        for (int i = 0; i < s.length(); i++) {
            h = mix(h, s.charAt(i));
        }
        h = mix(h, -1, -1);
        due("digest", h, x.digest());
        x.text(0, 1);
        x.put(0, 0, 200);
        h = x.digest();
        x.put(0, 0, -56);
        due("a byte is a byte", h, x.digest());
    }
}
