/** The Terms of CHANGES that CAN BE, and promises 19 to 25: CHANGES done, undone, told, kept. */
final class FightBounds {
    /** A ring 0 > 1 > 2 > 0; all is forced: CHANGES 0, 2, 1, 0, then FIGHTER 0 has LOST. */
    static final String RING = "g1 s2 s0 x011x122x201x103 f05 f24";
    /** BEES that go round, four CHANGES each time, one FIRE each: ten till FIGHTER 0 has LOST. */
    static final String ALL_FOUR = "b12b02b01x101x021x211x101x021x211x101x021x211x101x021x211f15f25";

    private FightBounds() {
    }

    static void run() {
        beats();
        begins();
        canBe();
        canBeAgain();
        takes();
        lost();
        can();
        turn();
        go();
        goFull();
        undo();
        undoRefused();
        told();
        keep();
        on();
    }

    private static void beats() {
        Check.says(0, "A SHAPE BEATS another one, if it is told to (by the TEXT, by beat()); but a BEAST never a MAN.");
        String letters = "sgbawm";
        for (int i = 0; i < 6; i++) {
            for (int j = 0; j < 6; j++) {
                String what = letters.charAt(i) + " and " + letters.charAt(j);
                boolean never = letters.charAt(i) == 'a' && letters.charAt(j) == 'm';
                ShapeDuel x = Check.nightOf(letters.charAt(i) + "1" + letters.charAt(j) + "f00f00");
                Check.tells(x, never ? 0 : 2, "shape", 0, 1);
                Check.tells(x, 0, "shape", 1, 1);
                Check.gives(x, 1, "beat", 0, 1, 0);
                Check.tells(x, 0, "shape", 0, 1);
                Check.gives(x, 0, "beat", 0, 1, 1);
                Check.tells(x, never ? 0 : 2, "shape", 0, 1);
                Check.hold(what, x.beat(0, 1, 1) == 1);
            }
        }
    }

    private static void begins() {
        Check.says(0, "FIGHTER 0 begins; they CHANGE by turns. Each KNOWS all CHANGES at first. "
            + "What a FIGHTER was in this NIGHT is USED (the first SHAPE, too).");
        ShapeDuel x = Check.nightOf(RING);
        Check.gives(x, 0, "turn");
        Check.tells(x, 15, "fighter", 0, 3);
        Check.tells(x, 15, "fighter", 1, 3);
        Check.fighterIs(x, 0, 0, 5, 1);
        Check.fighterIs(x, 1, 2, 4, 4);
        int[] line = {0, 2, 1, 0};
        int[] used = {3, 5, 7, 7};
        for (int i = 0; i < 4; i++) {
            x.go(line[i]);
            Check.gives(x, (i + 1) % 2, "turn");
            Check.tells(x, used[i], "fighter", i % 2, 2);
        }
        Check.tells(x, 7, "fighter", 0, 2);
    }

    private static void canBe() {
        Check.says(0, "A CHANGE CAN BE for a FIGHTER, if that one KNOWS it, is what it begins from,");
        String base = "ss0x013f03f00";
        Check.gives(Check.nightOf(base), 1, "can", 0);
        ShapeDuel unknown = Check.nightOf(base);
        unknown.teach(1, 0, 0);
        Check.gives(unknown, 1, "can", 0);
        unknown.teach(0, 0, 0);
        Check.gives(unknown, 0, "can", 0);
        Check.gives(unknown, Check.STATE, "go", 0);
        ShapeDuel elsewhere = Check.nightOf("sss0x023f13f03");
        Check.gives(elsewhere, 0, "can", 0);
        Check.gives(elsewhere, 0, "can", 1);
        elsewhere.beat(2, 1, 1);
        Check.gives(elsewhere, 1, "can", 1);
        Check.says(0, "which BEATS what the other one is, and what it TAKES is no more than the FIRE of that one.");
        ShapeDuel beaten = Check.nightOf(base);
        beaten.beat(1, 0, 0);
        Check.gives(beaten, 0, "can", 0);
        Check.gives(beaten, Check.STATE, "go", 0);
        Check.gives(Check.nightOf("sa2mx011f05f20"), 0, "can", 0);
        Check.gives(Check.nightOf("sa2sx011f05f20"), 1, "can", 0);
        ShapeDuel fire = Check.nightOf(base);
        for (int v = 0; v <= 5; v++) {
            fire.fire(0, v);
            Check.gives(fire, v < 3 ? 0 : 1, "can", 0);
        }
        fire.fire(1, 0);
        fire.fire(0, 2);
        Check.gives(fire, Check.STATE, "go", 0);
        fire.fire(0, 3);
        Check.gives(fire, 3, "go", 0);
        Check.tells(fire, 0, "fighter", 0, 1);
    }

    private static void canBeAgain() {
        Check.says(0, "it leads to a SHAPE that is not USED by that one (a BEES, a SWARM, too, may be),");
        for (String letter : new String[] {"s", "g", "b", "a", "w", "m"}) {
            ShapeDuel x = Check.nightOf(letter + "2" + letter + "2sx011x101f05f20");
            x.go(0);
            Check.gives(x, letter.equals("b") || letter.equals("w") ? 2 : 0, "can", 0);
        }
        ShapeDuel byOther = Check.nightOf("s12s2sx011x201f05f25");
        byOther.go(0);
        Check.tells(byOther, 3, "fighter", 0, 2);
        Check.gives(byOther, 2, "can", 1);
    }

    /** All KINDS from which, into which and against which, with each COST; FIRE 5. */
    private static void takes() {
        Check.says(0, "It TAKES its COST; 1 less, if it leads to a GRAIN (a MAN, too); 1 more, if it begins from a BEAST; "
            + "1 more, if the other one is a SWARM; 1 at least.");
        String letters = "sgbawm";
        for (int all = 0; all < 6 * 6 * 6 * 5; all++) {
            char from = letters.charAt(all % 6);
            char into = letters.charAt(all / 6 % 6);
            char other = letters.charAt(all / 36 % 6);
            int cost = 1 + all / 216;
            int takes = cost;
            takes -= into == 'g' || into == 'm' ? 1 : 0;
            takes += from == 'a' ? 1 : 0;
            takes += other == 'w' ? 1 : 0;
            takes = takes < 1 ? 1 : takes;
            boolean can = takes <= 5 && !(into == 'a' && other == 'm');
            ShapeDuel x = Check.nightOf("" + from + into + "2" + other + "x01" + cost + "f05f20");
            Check.gives(x, can ? takes : Check.STATE, "go", 0);
            Check.tells(x, can ? 5 - takes : 5, "fighter", 0, 1);
        }
    }

    private static void lost() {
        Check.says(0, "Who is to CHANGE and can not has LOST.");
        ShapeDuel x = Check.nightOf("ss0x011f05f00");
        Check.asks(x, 0, 0, "turn");
        x.go(0);
        Check.asks(x, 1, 1, "turn");
        ShapeDuel none = Check.nightOf("ss0f05f05");
        Check.asks(none, 0, 1, "turn");
        Check.says(0, "ROWS of CHANGES are done one behind the other from the NIGHT as it is, by turns. "
            + "They go by their first numbers, then the second ones, ..");
        ShapeDuel ring = Check.nightOf(RING);
        ring.go(0);
        Check.rowOf(ring, 0, 2, 1, 0);
        Check.asks(ring, 3, 0, "judge", 0);
        ShapeDuel bees = Check.nightOf(ALL_FOUR);
        bees.teach(1, 2, 0);
        Check.gives(bees, 10, "line", 0);
        Check.rowIs(bees, 0, 0, 5, 1, 0, 2, 1, 0, 5, 1, 0);
        Check.rowOf(bees, 1, 0, 1, 2);
        Check.gives(bees, 48, "shown", 1, 2);
        Check.rowIs(bees, 2, 0, 5, 1);
        Check.says(0, "BY LOTS: who is to CHANGE chooses one of the CHANGES that CAN BE.");
        for (int seed = 1; seed <= 40; seed++) {
            ShapeDuel lots = Check.nightOf(ALL_FOUR);
            lots.teach(0, 0, 0);
            Check.gives(lots, 1, "lots", 1, seed);
            lots.told(0);
            lots.at(0, 0);
            Check.hold("one that can be", (1 << lots.asked() & 0b1001001000) != 0);
        }
    }

    private static void can() {
        Check.says(19, "CHANGES that CAN BE for a FIGHTER, as if it were that one's turn (bits).");
        ShapeDuel x = Check.nightOf(ALL_FOUR);
        Check.gives(x, 0b001001001001, "can", 0);
        Check.gives(x, 0, "can", 1);
        x.go(9);
        Check.gives(x, 0b100100100100, "can", 1);
        Check.gives(x, 0, "can", 0);
        x.go(11);
        Check.gives(x, 0b010010010010, "can", 0);
        Check.due("can() is not asked", 0, x.asked());
        ShapeDuel both = Check.nightOf("ss0s0x011x021f05f05");
        Check.gives(both, 3, "can", 0);
        Check.gives(both, 3, "can", 1);
        Check.gives(Check.nightOf("ssf05f05"), 0, "can", 1);
        Check.says(19, "BAD.");
        Check.bounds(Scene.RICH, 0, 1, "can", 0, 0);
        Check.bad(Scene.NEW, "can", 0);
        Check.bad(Scene.ROWS, "can", 1);
    }

    private static void turn() {
        Check.says(20, "Whose turn it is; whether that one has LOST (1, 0) by asked().");
        ShapeDuel x = Check.nightOf(ALL_FOUR);
        int[] line = {0, 2, 1, 0, 2, 1, 0, 2, 1, 0};
        for (int i = 0; i < 10; i++) {
            Check.asks(x, i % 2, 0, "turn");
            x.go(line[i]);
        }
        Check.asks(x, 0, 1, "turn");
        x.fire(0, 1);
        Check.asks(x, 0, 0, "turn");
        Check.asks(Scene.FORTY.make(), 0, 0, "turn");
        Check.says(20, "STATE: no FIGHTERS.");
        Check.notNow(Scene.NEW, "turn");
        Check.notNow(Scene.ROWS, "turn");
    }

    private static void go() {
        Check.says(21, "Who is to CHANGE does a CHANGE: what it TAKES.");
        ShapeDuel x = Check.nightOf(RING);
        int[] line = {0, 2, 1, 0};
        int[] takes = {1, 1, 2, 1};
        for (int i = 0; i < 4; i++) {
            Check.gives(x, takes[i], "go", line[i]);
            Check.gives(x, i + 1, "count", 2);
        }
        Check.due("go() is not asked", 0, x.asked());
        Check.says(21, "BAD; STATE: it can't be;");
        Check.bounds(Scene.RICH, 0, 5, "go", 0, 0);
        for (int k : new int[] {0, 1, 2, 3, 5}) {
            Check.notNow(Scene.RICH, "go", k);
        }
        Check.bad(Scene.RICH, "go", 11);
        Check.bad(Scene.NEW, "go", 0);
        Check.gives(Check.nightOf("ssf05f05"), Check.BAD, "go", 0);
        ShapeDuel other = Check.nightOf("ss0s01x011x021x121f05f15");
        Check.gives(other, 4, "can", 1);
        Check.gives(other, Check.STATE, "go", 2);
    }

    private static void goFull() {
        Check.says(21, "FULL: 40 were done. (FULL last.)");
        int can = Integer.numberOfTrailingZeros(Scene.FORTY.make().can(0));
        Check.full(Scene.FORTY, "go", can);
        for (int k = 0; k < 6; k++) {
            if (k != can) {
                Check.notNow(Scene.FORTY, "go", k);
            }
        }
        Check.bad(Scene.FORTY, "go", 6);
        Check.bad(Scene.FORTY, "go", -1);
        ShapeDuel x = Scene.FORTY.make();
        Check.gives(x, 1, "undo", 39);
        x.fire(1, 5);
        int k = Integer.numberOfTrailingZeros(x.can(1));
        Check.hold("the fortieth can be done", x.go(k) > 0);
        Check.gives(x, 40, "count", 2);
    }

    private static void undo() {
        Check.says(22, "CHANGES done from number n on are undone (SHAPES, FIRE, USED are as ahead of it, fire() since "
            + "undone, too; what one KNOWS, who beats whom stay): how many.");
        ShapeDuel x = Check.nightOf(RING);
        Check.gives(x, 0, "undo", 0);
        x.fire(0, 3);
        x.go(0);
        x.fire(0, 0);
        x.fire(1, 5);
        x.go(2);
        x.teach(0, 3, 0);
        x.beat(2, 1, 1);
        x.fire(0, 5);
        Check.gives(x, 0, "undo", 2);
        Check.tells(x, 5, "fighter", 0, 1);
        x.go(1);
        Check.gives(x, 1, "undo", 2);
        Check.fighterIs(x, 0, 1, 5, 3);
        Check.fighterIs(x, 1, 0, 4, 5);
        Check.gives(x, 1, "undo", 1);
        Check.fighterIs(x, 0, 1, 0, 3);
        Check.fighterIs(x, 1, 2, 5, 4);
        Check.gives(x, 1, "turn");
        Check.gives(x, 1, "undo", 0);
        Check.fighterIs(x, 0, 0, 3, 1);
        Check.fighterIs(x, 1, 2, 4, 4);
        Check.gives(x, 0, "turn");
        Check.tells(x, 7, "fighter", 0, 3);
        Check.tells(x, 3, "shape", 2, 1);
        Check.gives(x, 0, "undo", 0);
        ShapeDuel all = Scene.FORTY.make();
        Check.gives(all, 40, "undo", 0);
        Check.fighterIs(all, 0, 0, 5, 1);
        Check.fighterIs(all, 1, 1, 5, 2);
        Check.gives(all, 0, "count", 2);
    }

    private static void undoRefused() {
        Check.says(22, "BAD.");
        Check.bounds(Scene.NEW, 0, 0, "undo", 0, 0);
        Check.bounds(Scene.ROWS, 0, 0, "undo", 0, 0);
        Check.bounds(Scene.RICH, 0, 2, "undo", 0, 0);
        Check.bounds(Scene.FORTY, 0, 40, "undo", 0, 0);
        Check.gives(Scene.RICH.make(), 0, "undo", 2);
        Check.gives(Scene.FORTY.make(), 0, "undo", 40);
        ShapeDuel x = Scene.FORTY.make();
        x.undo(5);
        Check.gives(x, Check.BAD, "undo", 6);
    }

    private static void told() {
        Check.says(23, "CHANGES done so far come to a ROW (anew): how many.");
        ShapeDuel x = Scene.RICH.make();
        for (int r = 0; r < 6; r++) {
            Check.gives(x, 2, "told", r);
            Check.rowIs(x, r, 3, 5);
        }
        Check.gives(x, 6, "count", 6);
        ShapeDuel none = Scene.ROWS.make();
        Check.gives(none, 0, "told", 2);
        Check.rowIs(none, 2);
        Check.gives(none, 0, "told", 4);
        Check.rowIs(none, 4);
        ShapeDuel full = Scene.FORTY.make();
        Check.gives(full, 40, "told", 5);
        Check.tells(full, 3, "at", 5, 0);
        Check.tells(full, 3, "at", 5, 39);
        Check.gives(full, Check.FINDING, "at", 5, 40);
        Check.says(23, "BAD.");
        Check.bounds(Scene.RICH, 0, 5, "told", 0, 0);
        Check.bounds(Scene.NEW, 0, 5, "told", 0, 0);
    }

    private static void keep() {
        Check.says(24, "The NIGHT (FIGHTERS, what they KNOW, CHANGES done) is kept in a place (0 .. 2): how many were done.");
        for (int k = 0; k < 3; k++) {
            ShapeDuel x = Scene.RICH.make();
            Check.gives(x, 2, "keep", k);
            x.undo(0);
            x.teach(0, 1, 1);
            x.fire(0, 0);
            Check.gives(x, 0, "keep", (k + 1) % 3);
            Check.gives(x, 2, "on", k);
            Check.fighterIs(x, 0, 2, 3, 5);
            Check.fighterIs(x, 1, 0, 2, 3);
            Check.tells(x, 61, "fighter", 0, 3);
            Check.tells(x, 62, "fighter", 1, 3);
            Check.gives(x, 2, "told", 0);
            Check.rowIs(x, 0, 3, 5);
        }
        ShapeDuel x = Scene.RICH.make();
        Check.gives(x, 2, "count", 8);
        Check.gives(x, 2, "keep", 0);
        Check.gives(x, 2, "count", 8);
        Check.gives(x, 2, "keep", 1);
        Check.gives(x, 3, "count", 8);
        Check.gives(Scene.FORTY.make(), 40, "keep", 2);
        Check.gives(Check.nightOf("sf00f00"), 0, "keep", 0);
        Check.says(24, "BAD; STATE: no FIGHTERS.");
        Check.bounds(Scene.RICH, 0, 2, "keep", 0, 0);
        Check.bounds(Scene.NEW, 0, 2, "keep", 0, 0);
        for (int k = 0; k < 3; k++) {
            Check.notNow(Scene.NEW, "keep", k);
        }
        Check.notNow(Scene.ROWS, "keep", 0);
    }

    private static void on() {
        Check.says(25, "The NIGHT is as it was kept (who beats whom stays; undo() goes on behind it): how many were done.");
        ShapeDuel x = Scene.RICH.make();
        x.beat(2, 0, 0);
        Check.gives(x, 1, "on", 0);
        Check.fighterIs(x, 0, 2, 3, 5);
        Check.fighterIs(x, 1, 1, 5, 2);
        Check.tells(x, 63, "fighter", 0, 3);
        Check.tells(x, 63, "fighter", 1, 3);
        Check.tells(x, 2, "shape", 2, 1);
        Check.gives(x, 1, "turn");
        Check.gives(x, 1, "undo", 0);
        Check.fighterIs(x, 0, 0, 5, 1);
        Check.gives(x, 1, "on", 0);
        Check.gives(x, 2, "on", 2);
        Check.gives(x, 1, "undo", 1);
        Check.fighterIs(x, 1, 1, 4, 2);
        Check.tells(x, 62, "fighter", 1, 3);
        Check.gives(x, 2, "on", 2);
        Check.fighterIs(x, 1, 0, 2, 3);
        Check.gives(x, 2, "count", 8);
        ShapeDuel fork = Check.nightOf(SolvedBounds.FORK);
        fork.fire(1, 2);
        fork.go(0);
        fork.keep(1);
        fork.undo(0);
        fork.fire(1, 4);
        fork.go(1);
        Check.gives(fork, 1, "on", 1);
        Check.gives(fork, 1, "told", 0);
        Check.rowIs(fork, 0, 0);
        fork.undo(0);
        Check.fighterIs(fork, 1, 0, 2, 1);
        ShapeDuel full = Scene.FORTY.make();
        full.undo(0);
        Check.gives(full, 40, "on", 1);
        Check.gives(full, 1, "undo", 39);
        Check.gives(full, 39, "undo", 0);
        Check.fighterIs(full, 0, 0, 5, 1);
        Check.says(25, "BAD; NOTHING.");
        Check.bounds(Scene.RICH, 0, 2, "on", 0, 0);
        Check.bounds(Scene.NEW, 0, 2, "on", 0, 0);
        Check.finds(Scene.RICH, Check.NOTHING, "on", 1);
        for (int k = 0; k < 3; k++) {
            Check.finds(Scene.NEW, Check.NOTHING, "on", k);
            Check.finds(Scene.ROWS, Check.NOTHING, "on", k);
        }
    }
}
