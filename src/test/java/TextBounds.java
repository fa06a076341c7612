/** The small language of the Terms, and promises 10 and 11: FAULTS and NIGHTS. */
final class TextBounds {
    private static final String LETTERS = "sgbawm";
    /** Five SHAPES, twelve CHANGES, all the 80 bytes that a TEXT may have. */
    private static final String FULLEST =
        "s01234s01234s01234s01234s0x011x021x031x041x101x121x131x141x201x211x231x245f05f10";

    private TextBounds() {
    }

    static void run() {
        blanks();
        shapes();
        changes();
        fighters();
        firstPlace();
        noneSuch();
        limits();
        sorts();
        endsTooEarly();
        beatsNobody();
        fault();
        night();
        nightAnew();
    }

    private static void faultIs(String s, int place) {
        ShapeDuel x = Scene.RICH.make();
        Check.write(x, 2, s);
        Check.due("fault of '" + s + "'", place, x.fault(2));
        if (place == Check.NONE) {
            Check.due("night of '" + s + "'", s.replaceAll("[xf].*|[^a-z]", "").length(), x.night(2));
        } else {
            Check.due("night of '" + s + "'", Check.STATE, x.night(2));
            Check.gives(x, 2, "count", 2);
        }
    }

    private static void blanks() {
        Check.says(0, "A NIGHT (without SHAPES, FIGHTERS at first) is a TEXT: "
            + "blanks (32) ahead, between, behind as many as wanted, none within items.");
        Check.bad(Scene.NEW, "shape", 0, 0);
        Check.bad(Scene.NEW, "fighter", 1, 0);
        faultIs("s1sx011f05f05", Check.NONE);
        faultIs(" s1 s x011 f05 f05 ", Check.NONE);
        faultIs("     s1      s     x011    f05     f05          ", Check.NONE);
        faultIs(" ".repeat(73) + "sf05f05", Check.NONE);
        faultIs("sf05f05" + " ".repeat(73), Check.NONE);
        faultIs("s" + " ".repeat(73) + "f05f05", Check.NONE);
        faultIs("s 1sx011f05f05", 2);
        faultIs("s1 2sx011f05f05", 3);
        faultIs("s1sx 011f05f05", 4);
        faultIs("s1sx0 11f05f05", 5);
        faultIs("s1sx01 1f05f05", 6);
        faultIs("s1sx011f 05f05", 8);
        faultIs("s1sx011f0 5f05", 9);
        faultIs("s1sx011f05f 05", 11);
        faultIs("s1sx011f05f0 5", 12);
    }

    private static void shapes() {
        Check.says(0, "First SHAPES (1 to 5; 0, 1, .. as they come): a letter and, for each SHAPE that it is told to "
            + "beat, its figure (0 .. 4), rising (none: the letter alone).");
        String shapes = "";
        for (int n = 1; n <= 5; n++) {
            shapes += LETTERS.charAt(n);
            faultIs(shapes + "f00f00", Check.NONE);
        }
        ShapeDuel x = Check.nightOf("s1234ga013ws3f05f05");
        int[] kinds = {0, 1, 3, 4, 0};
        int[] beaten = {30, 0, 11, 0, 8};
        for (int i = 0; i < 5; i++) {
            Check.tells(x, kinds[i], "shape", i, 0);
            Check.tells(x, beaten[i], "shape", i, 1);
        }
        Check.says(0, "KINDS of SHAPES and letters: 0 SHAPE (s, 115), 1 GRAIN (g, 103; a SHAPE), 2 BEES (b, 98; a "
            + "SHAPE), 3 BEAST (a, 97; a SHAPE), 4 SWARM (w, 119; a BEES), 5 MAN (m, 109; a GRAIN).");
        int[] signs = {115, 103, 98, 97, 119, 109};
        for (int kind = 0; kind <= 5; kind++) {
            Check.tells(Check.nightOf((char) signs[kind] + "f00f00"), kind, "shape", 0, 0);
            Check.gives(Check.nightOf((char) signs[kind] + "f00f00"), kind == 1 || kind == 5 ? 1 : 0, "count", 3);
            Check.gives(Check.nightOf((char) signs[kind] + "f00f00"), kind == 2 || kind == 4 ? 1 : 0, "count", 4);
        }
    }

    private static void changes() {
        Check.says(0, "Then CHANGES (12 at most, 4 from one SHAPE; 0, 1, ..): x (120), the SHAPE from which, another "
            + "one into which, the COST (1 .. 5), one figure each.");
        ShapeDuel x = Check.nightOf(FULLEST);
        Check.gives(x, 12, "count", 1);
        int[][] some = {{0, 0, 1, 1}, {3, 0, 4, 1}, {4, 1, 0, 1}, {11, 2, 4, 5}};
        for (int[] change : some) {
            for (int what = 0; what < 3; what++) {
                Check.tells(x, change[what + 1], "change", change[0], what);
            }
        }
        Check.bad(Scene.NEW, "change", 0, 0);
        faultIs("ssf05f05", Check.NONE);
        Check.gives(Check.nightOf("ssf05f05"), 0, "count", 1);
    }

    private static void fighters() {
        Check.says(0, "Then just two FIGHTERS 0, 1: f (102), the SHAPE, the FIRE (0 .. 5), one figure each.");
        ShapeDuel x = Check.nightOf("sssssf40f05");
        Check.fighterIs(x, 0, 4, 0, 16);
        Check.fighterIs(x, 1, 0, 5, 1);
        ShapeDuel same = Check.nightOf("sf03f02");
        Check.fighterIs(same, 0, 0, 3, 1);
        Check.fighterIs(same, 1, 0, 2, 1);
        faultIs("s", 1);
        faultIs("sf05", 4);
        faultIs("sf05f05f05", 7);
    }

    /** Each byte that there is at each sort of place: where it goes on, or is the FAULT itself. */
    private static void noneSuch() {
        Check.says(0, "(a letter, a figure that is none such, not rising; "
            + "in CHANGES, FIGHTERS a SHAPE that there is not, the same one twice,");
        sweep("?f00f00", 0, "sgbawm", " ");
        sweep("s?f00f00", 1, "01234sgbawm ", "xf");
        sweep("s1?f00f00", 2, "234sgbawm ", "xf");
        sweep("ssx?11f00f00", 3, "0", "1");
        sweep("ssx0?1f00f00", 4, "1", "");
        sweep("ssx01?f00f00", 5, "12345", "");
        sweep("ssx011?f00f00", 6, " ", "xf");
        sweep("ssf?0f00", 3, "01", "");
        sweep("ssf0?f00", 4, "012345", "");
        sweep("ssf00?f00", 5, " ", "f");
        sweep("ssf00f?0", 6, "01", "");
        sweep("ssf00f0?", 7, "012345", "");
        sweep("ssf00f00?", 8, " ", "");
        faultIs("s10f00f00", 2);
        faultIs("s0123401f00f00", 6);
        faultIs("sssss44f00f00", 6);
        faultIs("sssssx404x445f00f00", 11);
    }

    /** A byte is fine, or shifts the FAULT to the place behind it, or else is the FAULT. */
    private static void sweep(String pattern, int place, String fine, String shifts) {
        for (int v = -128; v < 128; v++) {
            ShapeDuel x = new ShapeDuel();
            Check.write(x, 1, pattern);
            x.put(1, place, v);
            boolean is = v >= 0 && fine.indexOf(v) >= 0;
            int due = v >= 0 && shifts.indexOf(v) >= 0 ? place + 1 : place;
            Check.due("byte " + v + " at ? of " + pattern, is ? Check.NONE : due, x.fault(1));
        }
    }

    private static void limits() {
        Check.says(0, "one from which there are four already; a sixth SHAPE, a thirteenth CHANGE, a third FIGHTER,");
        faultIs("ssx011x012x013x014f00f00", Check.NONE);
        faultIs("ssx011x012x013x014x015f00f00", 19);
        faultIs("ssx101x011x012x013x014x102x015f00f00", 27);
        faultIs("sssssx401x411x421x431x401", 22);
        faultIs("sssss f00f00", Check.NONE);
        faultIs("ssssss f00f00", 5);
        faultIs("sssss  w", 7);
        String twelve = "ssssx011x021x031x011x101x121x131x101x201x211x231x201";
        faultIs(twelve + "f00f00", Check.NONE);
        faultIs(twelve + "x301f00f00", 52);
        faultIs(twelve + " x301f00f00", 53);
        faultIs(twelve + "x", 52);
        faultIs("sf00f00f00", 7);
        faultIs("sf00f00   f", 10);
    }

    private static void sorts() {
        Check.says(0, "a sort ahead of its turn or behind it: its place;");
        faultIs("x011", 0);
        faultIs(" x", 1);
        faultIs("f00f00", 0);
        faultIs("  f", 2);
        faultIs("ssx011sf00f00", 6);
        faultIs("ssx011 m0f00f00", 7);
        faultIs("ssf00sf00", 5);
        faultIs("ssf00f00s", 8);
        faultIs("ssf00x011f00", 5);
        faultIs("ssf00f00x011", 8);
        faultIs("ssf00f00 x", 9);
    }

    private static void endsTooEarly() {
        Check.says(0, "the TEXT's size, if its end comes too early, or there are blanks alone).");
        for (String s : new String[] {FULLEST, Scene.LARGE, Scene.HIVE, " s  b0 x011  x015 f00  f15"}) {
            faultIs(s, Check.NONE);
            for (int n = 0; n < s.length(); n++) {
                faultIs(s.substring(0, n), n);
            }
        }
        for (int n : new int[] {0, 1, 2, 79, 80}) {
            faultIs(" ".repeat(n), n);
        }
        faultIs("sf05   ", 7);
        faultIs("s" + " ".repeat(79), 80);
    }

    private static void firstPlace() {
        Check.says(0, "A FAULT is the first place at which it can't go on so");
        faultIs(FULLEST.substring(0, 79) + "6", 79);
        faultIs(FULLEST.substring(0, 78) + "56", 78);
        faultIs("z" + FULLEST.substring(1), 0);
        faultIs("s5zf99", 1);
        faultIs("ssx00x99", 4);
        ShapeDuel x = new ShapeDuel();
        Check.write(x, 0, "sf05f05z");
        Check.gives(x, 7, "fault", 0);
        Check.write(x, 0, "sf05f05");
        Check.gives(x, Check.NONE, "fault", 0);
        Check.write(x, 0, "sf05f0");
        Check.gives(x, 6, "fault", 0);
    }

    private static void beatsNobody() {
        Check.says(0, "(A figure behind a SHAPE may be that of one that there is not, or of itself: that beats nobody.)");
        ShapeDuel one = Check.nightOf("s01234f05f05");
        Check.tells(one, 0, "shape", 0, 1);
        Check.tells(one, 0, "shape", 0, 2);
        Check.asks(one, 0, 0, "best");
        ShapeDuel x = Check.nightOf("s01234s4s2f05f05");
        Check.tells(x, 6, "shape", 0, 1);
        Check.tells(x, 0, "shape", 1, 1);
        Check.tells(x, 0, "shape", 2, 1);
        Check.tells(x, 1, "shape", 1, 2);
        Check.asks(x, 0, 7, "rings");
        Check.asks(x, 1, 1, "cover");
        ShapeDuel swarm = Check.nightOf("w0m1f00f00");
        Check.gives(swarm, 0, "mark", 0, 4);
        Check.write(x, 1, "sssssf05f05");
        x.night(1);
        Check.tells(x, 0, "shape", 0, 1);
    }

    private static void fault() {
        Check.says(10, "A FAULT of a TEXT; NONE: there is none.");
        for (int t = 0; t < 4; t++) {
            ShapeDuel x = Scene.RICH.make();
            Check.write(x, t, "sf00f00");
            Check.gives(x, Check.NONE, "fault", t);
            Check.write(x, t, "sf00f00s");
            Check.gives(x, 7, "fault", t);
            Check.due("fault() is not asked", -8, x.asked());
            Check.gives(x, 2, "count", 2);
        }
        Check.says(10, "BAD; NOTHING.");
        Check.bounds(Scene.RICH, 0, 3, "fault", 0, 0);
        Check.finds(Scene.RICH, Check.NOTHING, "fault", 2);
    }

    private static void night() {
        Check.says(11, "BAD; NOTHING; STATE: a FAULT. (STATE behind NOTHING.)");
        Check.bounds(Scene.RICH, 0, 3, "night", 0, 0);
        Check.finds(Scene.RICH, Check.NOTHING, "night", 2);
        Check.finds(Scene.NEW, Check.NOTHING, "night", 0);
        Check.notNow(Scene.RICH, "night", 1);
        Check.notNow(Scene.ROWS, "night", 1);
        ShapeDuel x = Scene.ROWS.make();
        x.text(0, 0);
        Check.gives(x, Check.STATE, "night", 0);
        Check.gives(x, Check.STATE, "turn");
        Check.write(x, 0, "s1g2w0x011x121x201f05f15f");
        Check.gives(x, Check.STATE, "night", 0);
        Check.gives(x, 0, "count", 0);
        Check.gives(x, 0, "count", 1);
        Check.gives(x, 0, "count", 5);
    }

    private static void nightAnew() {
        Check.says(11, "A NIGHT by a TEXT (anew: nothing done; kept NIGHTS go): how many SHAPES.");
        String five = "sgbaw";
        for (int n = 1; n <= 5; n++) {
            ShapeDuel x = Scene.RICH.make();
            Check.write(x, 2, five.substring(0, n) + "f00f00");
            Check.gives(x, n, "night", 2);
            Check.gives(x, n, "count", 0);
        }
        ShapeDuel x = Scene.RICH.make();
        x.beat(0, 1, 0);
        int[] found = Check.findingsOf(x);
        x.at(0, 1);
        Check.gives(x, 3, "night", 0);
        Check.due("asked() stays", -8, x.asked());
        Check.due("upper() stays", 2, x.upper());
        Check.due("lower() stays", 3, x.lower());
        Check.hold("findings stay", java.util.Arrays.equals(found, Check.findingsOf(x)));
        Check.gives(x, 0, "count", 2);
        Check.gives(x, 0, "count", 8);
        for (int k = 0; k < 3; k++) {
            Check.gives(x, Check.FINDING, "on", k);
        }
        Check.gives(x, 0, "turn");
        Check.fighterIs(x, 0, 0, 5, 1);
        Check.fighterIs(x, 1, 1, 5, 2);
        Check.tells(x, 63, "fighter", 0, 3);
        Check.tells(x, 63, "fighter", 1, 3);
        Check.tells(x, 6, "shape", 0, 1);
        Check.gives(x, Check.BAD, "undo", 1);
        Check.rowIs(x, 0, 7, -8, 9);
        Check.gives(x, 3, "count", 6);
        Check.gives(x, 3, "count", 7);
        x.text(0, 0);
        Check.gives(x, 3, "count", 0);
        Check.gives(x, 2, "go", 3);
    }
}
