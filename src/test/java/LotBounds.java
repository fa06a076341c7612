/** Promises 36 to 38: chances by lots, and lots drawn. */
final class LotBounds {
    private static final String STILL = "ss0f05f05";
    /** FIGHTER 0 has four CHANGES, two of which win. */
    private static final String TWO_OF_FOUR = "ss0s0s0s1x411x412x421x431x041f42f01";
    private static final int LARGEST_SEED = 2147483646;

    private LotBounds() {
    }

    static void run() {
        lowestTerms();
        odds();
        hopes();
        lots();
        lotsRefused();
        lotsFull();
    }

    private static void lowestTerms() {
        Check.says(0, "Chances are told by upper(), lower(), in lowest terms, the lower number above 0 (0 by 1).");
        Check.chances(Check.nightOf(TWO_OF_FOUR), 1, 2, "odds");
        Check.chances(Check.nightOf(STILL), 0, 1, "odds");
        Check.chances(Check.nightOf(STILL), 0, 1, "hopes");
        Check.chances(Check.nightOf(TWO_OF_FOUR), 1, 1, "hopes");
        ShapeDuel x = Check.nightOf(FightBounds.ALL_FOUR);
        Check.chances(x, 0, 1, "odds");
        x.fire(1, 4);
        Check.chances(x, 1, 1, "odds");
    }

    private static void odds() {
        Check.says(36, "Chances that who is to CHANGE wins, if both CHANGE BY LOTS, all CHANGES that CAN BE alike likely, "
            + "told by upper(), lower(): 1.");
        ShapeDuel x = Check.nightOf(Scene.LARGE);
        Check.chances(x, 2, 3, "odds");
        x.teach(0, 2, 0);
        Check.chances(x, 1, 2, "odds");
        x.teach(0, 1, 0);
        Check.chances(x, 0, 1, "odds");
        x.teach(0, 0, 0);
        Check.chances(x, 0, 1, "odds");
        x.teach(0, 0, 1);
        x.go(0);
        Check.chances(x, 1, 1, "odds");
        x.go(3);
        Check.chances(x, 0, 1, "odds");
        Check.due("odds() is not asked", 0, x.asked());
        ShapeDuel by = Check.nightOf("ss04s1s1s23x011x021x031x141x311x421f02f02");
        Check.chances(by, 1, 2, "odds");
        Check.gives(by, 0, "count", 2);
        Check.says(36, "STATE: no FIGHTERS.");
        Check.notNow(Scene.NEW, "odds");
        Check.notNow(Scene.ROWS, "odds");
    }

    private static void hopes() {
        Check.says(37, "Likewise, if who is to CHANGE does so as well as can be (by the best chances), the other one alone "
            + "BY LOTS; the first such CHANGE by asked() (NONE: none CAN BE).");
        String[] nights = {STILL, FightBounds.RING, SolvedBounds.FORK, Scene.LARGE, TWO_OF_FOUR};
        int[] upper = {0, 0, 1, 1, 1};
        int[] first = {Check.NONE, 0, 1, 1, 2};
        for (int i = 0; i < nights.length; i++) {
            ShapeDuel x = Check.nightOf(nights[i]);
            Check.chances(x, upper[i], 1, "hopes");
            Check.due("hopes() asked()", first[i], x.asked());
        }
        ShapeDuel by = Check.nightOf("ss04s1s1s23x011x021x031x141x311x421f02f02");
        Check.chances(by, 1, 2, "hopes");
        Check.due("hopes() asked()", 0, by.asked());
        by.go(0);
        Check.chances(by, 1, 1, "hopes");
        Check.due("hopes() of FIGHTER 1 asked()", 2, by.asked());
        Check.chances(by, 1, 2, "odds");
        ShapeDuel less = Check.nightOf(Scene.LARGE);
        for (int k = 2; k >= 0; k--) {
            less.teach(0, k, 0);
            less.hopes();
            Check.due("hopes() asked() without " + k, k == 0 ? Check.NONE : k == 1 ? 0 : 1, less.asked());
        }
        Check.says(37, "STATE: no FIGHTERS.");
        Check.notNow(Scene.NEW, "hopes");
        Check.notNow(Scene.ROWS, "hopes");
    }

    private static void lots() {
        Check.says(38, "n (1 .. 20) CHANGES truly BY LOTS of a seed: a number comes from the one ahead by 48271 times it "
            + "modulo 2147483647, the first from the seed (1 .. 2147483646): of CHANGES that CAN BE the one at it modulo "
            + "how many there are (the least first); till none can be: how many.");
        // 48271, 182605794, 1291394886, .. modulo 4 are 3, 2, 2, 1, 1, 3, 1, 1, 3, 3
        drawn(20, 1, 9, 8, 7, 3, 5, 10, 3, 5, 10, 9);
        drawn(10, 1, 9, 8, 7, 3, 5, 10, 3, 5, 10, 9);
        drawn(9, 1, 9, 8, 7, 3, 5, 10, 3, 5, 10);
        drawn(1, 1, 9);
        // 2147435376, 1964877853, 856088761, 232763010, 68814606, .. modulo 4 are 0, 1, 1, 2, 2, 0, 2, 2, 0, 0
        drawn(20, LARGEST_SEED, 0, 5, 4, 6, 8, 1, 6, 8, 1, 0);
        drawn(1, LARGEST_SEED, 0);
        ShapeDuel still = Check.nightOf(STILL);
        Check.gives(still, 0, "lots", 1, 1);
        Check.gives(still, 0, "lots", 20, LARGEST_SEED);
        Check.gives(still, 0, "count", 2);
        ShapeDuel ring = Check.nightOf(FightBounds.RING);
        Check.gives(ring, 4, "lots", 20, 12345);
        Check.gives(ring, 0, "lots", 20, 12345);
        Check.gives(ring, 4, "undo", 0);
        Check.fighterIs(ring, 0, 0, 5, 1);
        Check.due("lots() is not asked", 1, ring.asked());
    }

    private static void drawn(int n, int seed, int... row) {
        ShapeDuel x = Check.nightOf(FightBounds.ALL_FOUR);
        Check.gives(x, row.length, "lots", n, seed);
        Check.gives(x, row.length, "told", 0);
        Check.rowIs(x, 0, row);
        Check.gives(x, 10 - row.length, "count", 5);
    }

    private static void lotsRefused() {
        Check.says(38, "BAD; STATE: no FIGHTERS;");
        Check.bounds(Scene.RICH, 1, 20, "lots", 0, 1, 1);
        Check.bounds(Scene.RICH, 1, LARGEST_SEED, "lots", 1, 1, 1);
        Check.bounds(Scene.NEW, 1, 20, "lots", 0, 1, 1);
        Check.bounds(Scene.NEW, 1, LARGEST_SEED, "lots", 1, 1, 1);
        Check.bad(Scene.RICH, "lots", 1, -1);
        Check.notNow(Scene.NEW, "lots", 1, 1);
        Check.notNow(Scene.ROWS, "lots", 20, LARGEST_SEED);
    }

    private static void lotsFull() {
        Check.says(38, "FULL: with n more there would be more than 40. (FULL last.)");
        Check.full(Scene.FORTY, "lots", 1, 1);
        Check.full(Scene.FORTY, "lots", 20, LARGEST_SEED);
        Check.bad(Scene.FORTY, "lots", 0, 1);
        Check.bad(Scene.FORTY, "lots", 21, 1);
        Check.bad(Scene.FORTY, "lots", 1, 0);
        Check.bad(Scene.FORTY, "lots", 20, Check.MOST);
        for (int done : new int[] {20, 21, 38, 39}) {
            ShapeDuel x = Check.nightOf(Scene.HIVE);
            Check.goOnTo(x, done);
            int room = 40 - done;
            if (room < 20) {
                Check.gives(x, Check.FULL, "lots", room + 1, 1);
                Check.gives(x, done, "count", 2);
            }
            x.fire(done % 2, 0);
            Check.gives(x, 0, "lots", room, 1);
            x.fire(done % 2, 2);
            Check.gives(x, 1, "lots", 1, 1);
            Check.gives(x, done + 1, "count", 2);
        }
        ShapeDuel lost = Scene.FORTY.make();
        lost.fire(0, 0);
        Check.gives(lost, Check.FULL, "lots", 1, 1);
    }
}
