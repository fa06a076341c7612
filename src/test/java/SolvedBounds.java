/** Promises 26 to 32: the fight solved. */
final class SolvedBounds {
    /** FIGHTER 0 has two CHANGES: by 0 FIGHTER 1 wins, by 1 FIGHTER 0. */
    static final String FORK = "ss0s0s1x311x321x031f31f01";
    /** FIGHTER 0 wins by either CHANGE at once. */
    private static final String EITHER = "ss0s0x011x022f05f05";
    /** Nobody can do anything. */
    private static final String STILL = "ss0f05f05";
    /** FIGHTER 0 wins by 0 in three, by 1 in one; CHANGE 2 is FIGHTER 1's answer to 0. */
    private static final String SHORT_AND_LONG = "ss0s1s0s2x011x031x021x141f05f05";
    /** Of twelve CHANGES the last one alone is of any use, to FIGHTER 0. */
    private static final String LAST_OF_TWELVE = "ss0ssx211x211x211x211x311x311x311x311x021x021x021x011f01f01";

    /** FIGHTER 0 wins by 0 in three and would lose by 1 in four. */
    private static final String WIN_OR_LOSE = "ss02s13s01s23x011x031x021x141x311x231f02f05";

    private SolvedBounds() {
    }

    static void run() {
        wins();
        ends();
        line();
        least();
        learn();
        needs();
        lines();
        fromAsItIs();
    }

    private static void wins() {
        Check.says(26, "Whether who is to CHANGE wins (1, 0); by which CHANGE (the first; NONE: that one does not) by "
            + "asked().");
        Check.asks(Check.nightOf(STILL), 0, Check.NONE, "wins");
        Check.asks(Check.nightOf(FightBounds.RING), 0, Check.NONE, "wins");
        Check.asks(Check.nightOf(EITHER), 1, 0, "wins");
        Check.asks(Check.nightOf(FORK), 1, 1, "wins");
        Check.asks(Check.nightOf(SHORT_AND_LONG), 1, 0, "wins");
        ShapeDuel last = Check.nightOf(FightBounds.ALL_FOUR);
        Check.asks(last, 0, Check.NONE, "wins");
        last.fire(1, 4);
        Check.asks(last, 1, 0, "wins");
        for (int k = 0; k < 9; k++) {
            last.teach(0, k, k % 3 == 0 ? 0 : 1);
        }
        Check.asks(last, 1, 9, "wins");
        Check.asks(Check.nightOf(LAST_OF_TWELVE), 1, 11, "wins");
        Check.hold("nothing is done", last.count(2) == 0 && last.count(5) == 9);
        ShapeDuel full = Scene.FORTY.make();
        full.fire(0, 2);
        full.fire(1, 1);
        Check.asks(full, 1, Integer.numberOfTrailingZeros(full.can(0)), "wins");
        Check.says(26, "STATE: no FIGHTERS.");
        Check.notNow(Scene.NEW, "wins");
        Check.notNow(Scene.ROWS, "wins");
    }

    private static void ends() {
        Check.says(27, "In how many CHANGES it ends, if who wins makes it as short, who loses as long as can be; who has "
            + "LOST then by asked().");
        Check.asks(Check.nightOf(STILL), 0, 0, "ends");
        Check.asks(Check.nightOf(FightBounds.RING), 4, 0, "ends");
        Check.asks(Check.nightOf(FORK), 1, 1, "ends");
        Check.asks(Check.nightOf(FightBounds.ALL_FOUR), 10, 0, "ends");
        Check.asks(Check.nightOf(SHORT_AND_LONG), 1, 1, "ends");
        ShapeDuel slow = Check.nightOf(SHORT_AND_LONG);
        slow.teach(0, 1, 0);
        Check.asks(slow, 3, 1, "ends");
        slow.go(0);
        Check.asks(slow, 2, 1, "ends");
        ShapeDuel tough = Check.nightOf("ss04s1s1s23x011x021x031x141x311x421f05f02");
        Check.asks(tough, 5, 1, "ends");
        Check.asks(Check.nightOf(WIN_OR_LOSE), 3, 1, "ends");
        ShapeDuel lose = Check.nightOf(WIN_OR_LOSE);
        lose.teach(0, 0, 0);
        Check.asks(lose, 4, 0, "ends");
        ShapeDuel beaten = Check.nightOf("ss0x011f05f00");
        beaten.go(0);
        Check.asks(beaten, 0, 1, "ends");
        Check.says(27, "STATE: no FIGHTERS.");
        Check.notNow(Scene.NEW, "ends");
        Check.notNow(Scene.ROWS, "ends");
    }

    private static void line() {
        Check.says(28, "The first row of CHANGES of such an end (perhaps not by the CHANGE that wins() tells) comes to a "
            + "ROW (anew): how many.");
        for (int r = 0; r < 6; r++) {
            ShapeDuel x = Scene.RICH.make();
            Check.write(x, 2, FightBounds.ALL_FOUR);
            x.night(2);
            Check.gives(x, 10, "line", r);
            Check.rowIs(x, r, 0, 2, 1, 0, 2, 1, 0, 2, 1, 0);
            Check.write(x, 2, STILL);
            x.night(2);
            Check.gives(x, 0, "line", r);
            Check.rowIs(x, r);
        }
        ShapeDuel x = Check.nightOf(SHORT_AND_LONG);
        Check.gives(x, 1, "line", 0);
        Check.rowIs(x, 0, 1);
        ShapeDuel win = Check.nightOf(WIN_OR_LOSE);
        Check.gives(win, 3, "line", 0);
        Check.rowIs(win, 0, 0, 1, 3);
        win.teach(0, 0, 0);
        Check.gives(win, 4, "line", 0);
        Check.rowIs(win, 0, 1, 2, 4, 5);
        ShapeDuel either = Check.nightOf(EITHER);
        Check.gives(either, 1, "line", 5);
        Check.rowIs(either, 5, 0);
        Check.gives(either, 0, "count", 2);
        ShapeDuel last = Check.nightOf(LAST_OF_TWELVE);
        Check.gives(last, 1, "line", 0);
        Check.rowIs(last, 0, 11);
        Check.says(28, "BAD; STATE: no FIGHTERS.");
        Check.bounds(Scene.RICH, 0, 5, "line", 0, 0);
        Check.bounds(Scene.NEW, 0, 5, "line", 0, 0);
        Check.notNow(Scene.NEW, "line", 0);
        Check.notNow(Scene.ROWS, "line", 2);
        Check.notNow(Scene.ROWS, "line", 5);
    }

    private static void least() {
        Check.says(29, "The least FIRE (0 .. 5) with which a FIGHTER would win, the turn being as it is. NONE: with none.");
        for (int cost = 1; cost <= 5; cost++) {
            ShapeDuel x = Check.nightOf("ss0x01" + cost + "f00f00");
            Check.gives(x, cost, "least", 0);
            Check.gives(x, 0, "least", 1);
            Check.fighterIs(x, 0, 0, 0, 1);
        }
        Check.gives(Check.nightOf("as0x015f05f00"), Check.NONE, "least", 0);
        Check.gives(Check.nightOf("ag0x015f05f00"), 5, "least", 0);
        Check.gives(Check.nightOf("ss0x011f05f00"), Check.NONE, "least", 1);
        Check.gives(Check.nightOf(STILL), Check.NONE, "least", 0);
        Check.gives(Check.nightOf(STILL), 0, "least", 1);
        ShapeDuel bees = Check.nightOf(FightBounds.ALL_FOUR);
        Check.gives(bees, Check.NONE, "least", 0);
        Check.gives(bees, 5, "least", 1);
        bees.fire(1, 4);
        Check.gives(bees, 5, "least", 0);
        bees.go(0);
        Check.gives(bees, 5, "least", 1);
        Check.gives(bees, 4, "least", 0);
        Check.due("least() is not asked", 0, Check.nightOf(STILL).asked());
        Check.says(29, "BAD.");
        fighters("least");
    }

    private static void fighters(String name) {
        Check.bounds(Scene.RICH, 0, 1, name, 0, 0);
        for (int w = -1; w <= 2; w++) {
            Check.bad(Scene.NEW, name, w);
            Check.bad(Scene.ROWS, name, w);
        }
    }

    private static void learn() {
        Check.says(30, "Which CHANGE that a FIGHTER does not KNOW to learn, so that that one wins (the first); NONE: none "
            + "makes it so, or that one wins already.");
        ShapeDuel x = Check.nightOf(EITHER);
        Check.gives(x, Check.NONE, "learn", 0);
        Check.gives(x, Check.NONE, "learn", 1);
        x.teach(0, 0, 0);
        Check.gives(x, Check.NONE, "learn", 0);
        x.teach(0, 1, 0);
        Check.gives(x, 0, "learn", 0);
        x.fire(0, 1);
        Check.gives(x, 0, "learn", 0);
        x.fire(0, 0);
        Check.gives(x, Check.NONE, "learn", 0);
        Check.tells(x, 0, "fighter", 0, 3);
        x.fire(0, 2);
        x.beat(1, 0, 0);
        Check.gives(x, 1, "learn", 0);
        ShapeDuel two = Check.nightOf(FightBounds.RING);
        two.teach(1, 0, 0);
        two.teach(1, 2, 0);
        Check.gives(two, Check.NONE, "learn", 1);
        two.teach(1, 2, 1);
        Check.gives(two, 0, "learn", 1);
        ShapeDuel last = Check.nightOf(FightBounds.ALL_FOUR);
        last.fire(1, 4);
        for (int k = 0; k < 12; k += 3) {
            last.teach(0, k, 0);
        }
        Check.gives(last, 0, "learn", 0);
        for (int k = 0; k < 12; k++) {
            last.teach(0, k, k % 3 == 0 || k == 11 ? 0 : 1);
        }
        Check.gives(last, 0, "learn", 0);
        last.teach(0, 0, 1);
        Check.gives(last, Check.NONE, "learn", 0);
        ShapeDuel twelfth = Check.nightOf(LAST_OF_TWELVE);
        twelfth.teach(0, 11, 0);
        twelfth.teach(0, 8, 0);
        Check.gives(twelfth, 11, "learn", 0);
        Check.says(30, "BAD.");
        fighters("learn");
    }

    private static void needs() {
        Check.says(31, "CHANGES (bits) which a FIGHTER who wins has to KNOW: without that one alone the other one would "
            + "win. (0, if that one does not win.)");
        ShapeDuel x = Check.nightOf(EITHER);
        Check.gives(x, 0, "needs", 0);
        Check.gives(x, 0, "needs", 1);
        x.teach(0, 0, 0);
        Check.gives(x, 2, "needs", 0);
        Check.tells(x, 2, "fighter", 0, 3);
        x.teach(0, 1, 0);
        Check.gives(x, 0, "needs", 0);
        Check.gives(x, 0, "needs", 1);
        ShapeDuel ring = Check.nightOf(FightBounds.RING);
        Check.gives(ring, 0, "needs", 0);
        Check.gives(ring, 5, "needs", 1);
        Check.tells(ring, 15, "fighter", 1, 3);
        Check.gives(Check.nightOf(FORK), 2, "needs", 0);
        ShapeDuel bees = Check.nightOf(FightBounds.ALL_FOUR);
        Check.gives(bees, 0, "needs", 1);
        for (int k = 0; k < 9; k++) {
            bees.teach(1, k, 0);
        }
        Check.gives(bees, 7 << 9, "needs", 1);
        Check.gives(Check.nightOf(LAST_OF_TWELVE), 1 << 11, "needs", 0);
        Check.says(31, "BAD.");
        fighters("needs");
    }

    private static void lines() {
        Check.says(32, "How many rows of n (0 .. 6) CHANGES can be done one behind the other; how many of these end it "
            + "(who is to CHANGE then has LOST) by asked().");
        ShapeDuel x = Check.nightOf(FightBounds.ALL_FOUR);
        for (int n = 0; n <= 6; n++) {
            Check.asks(x, 1 << 2 * n, 0, "lines", n);
        }
        x.fire(0, 3);
        x.fire(1, 3);
        Check.asks(x, 1024, 0, "lines", 5);
        Check.asks(x, 4096, 4096, "lines", 6);
        Check.asks(Check.nightOf(STILL), 1, 1, "lines", 0);
        Check.asks(Check.nightOf(STILL), 0, 0, "lines", 1);
        Check.asks(Check.nightOf(STILL), 0, 0, "lines", 6);
        ShapeDuel fork = Check.nightOf(FORK);
        int[] all = {1, 2, 1, 0};
        int[] ended = {0, 1, 1, 0};
        for (int n = 0; n < 4; n++) {
            Check.asks(fork, all[n], ended[n], "lines", n);
        }
        Check.hold("nothing is done", fork.count(2) == 0 && fork.count(5) == 2);
        Check.says(32, "BAD; STATE: no FIGHTERS.");
        Check.bounds(Scene.RICH, 0, 6, "lines", 0, 0);
        Check.bounds(Scene.NEW, 0, 6, "lines", 0, 0);
        Check.notNow(Scene.NEW, "lines", 0);
        Check.notNow(Scene.ROWS, "lines", 6);
    }

    /** Nothing of an earlier answer stays: FIGHTER 1 gets an answer to CHANGE 1, then not, again and again. */
    private static void fromAsItIs() {
        ShapeDuel x = Check.nightOf(FORK);
        for (int round = 0; round < 3; round++) {
            Check.asks(x, 1, 1, "wins");
            Check.asks(x, 1, 1, "ends");
            Check.gives(x, 1, "least", 0);
            Check.gives(x, 2, "needs", 0);
            Check.chances(x, 1, 2, "odds");
            Check.chances(x, 1, 1, "hopes");
            x.beat(3, 2, 1);
            Check.chances(x, 0, 1, "odds");
            Check.chances(x, 0, 1, "hopes");
            Check.gives(x, Check.NONE, "least", 0);
            Check.gives(x, 4, "needs", 1);
            Check.asks(x, 2, 0, "ends");
            Check.asks(x, 0, Check.NONE, "wins");
            x.beat(3, 2, 0);
            Check.chances(x, 1, 1, "hopes");
            Check.chances(x, 1, 2, "odds");
            Check.asks(x, 1, 1, "ends");
        }
    }
}
