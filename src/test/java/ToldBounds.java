/** Promises 33 to 35: fights told. */
final class ToldBounds {
    /** Three CHANGES from 0 into 1, then one of FIGHTER 1 from 1 into 2, one from 0 into 2. */
    private static final String THREE_WAYS = "ss0s1x011x012x013x121x021f03f01";

    private ToldBounds() {
    }

    static void run() {
        judge();
        judgeRefused();
        shown();
        shownForFire();
        shownForAllFires();
        shownStays();
        must();
        refusedInOrder("shown", 1);
        refusedInOrder("must", 0);
        mustFighter();
    }

    private static ShapeDuel rows(String night, int... row) {
        ShapeDuel x = Check.nightOf(night);
        Check.rowOf(x, 0, row);
        return x;
    }

    private static void judge() {
        Check.says(33, "A ROW of CHANGES judged: the first that can't be done (as many as there are: none); who has LOST "
            + "behind those that could by asked() (NONE: nobody yet).");
        String ring = FightBounds.RING;
        Check.asks(rows(ring), 0, Check.NONE, "judge", 0);
        Check.asks(rows(ring, 0), 1, Check.NONE, "judge", 0);
        Check.asks(rows(ring, 1), 0, Check.NONE, "judge", 0);
        Check.asks(rows(ring, 0, 2, 1), 3, Check.NONE, "judge", 0);
        Check.asks(rows(ring, 0, 2, 1, 0), 4, 0, "judge", 0);
        Check.asks(rows(ring, 0, 2, 1, 0, 3), 4, 0, "judge", 0);
        Check.asks(rows(ring, 0, 2, 3, 0), 2, Check.NONE, "judge", 0);
        Check.asks(rows(SolvedBounds.FORK, 1), 1, 1, "judge", 0);
        Check.asks(rows(SolvedBounds.FORK, 1, 1, 1), 1, 1, "judge", 0);
        Check.asks(rows("ssx011f05f05"), 0, 0, "judge", 0);
        Check.asks(rows("ssf05f05"), 0, 0, "judge", 0);
        String bees = FightBounds.ALL_FOUR;
        Check.asks(rows(bees, 0, 2, 1, 0, 2, 1, 0, 2, 1, 0), 10, 0, "judge", 0);
        Check.asks(rows(bees, 9, 11, 10, 9, 11, 10, 9, 11, 10, 9, 11, 10), 10, 0, "judge", 0);
        ShapeDuel x = rows(bees, 0, 2);
        x.judge(0);
        Check.hold("nothing is done", x.count(2) == 0 && x.count(5) == 10);
        x.go(0);
        Check.rowOf(x, 0, 2, 1);
        Check.asks(x, 2, Check.NONE, "judge", 0);
        ShapeDuel full = Scene.FORTY.make();
        Check.rowOf(full, 0, Integer.numberOfTrailingZeros(full.can(0)));
        Check.gives(full, 1, "judge", 0);
    }

    private static void judgeRefused() {
        Check.says(33, "BAD; STATE: no FIGHTERS; NOTHING; SIZE: more than 12; UNLIKE: no CHANGE. (In this order.)");
        Check.bounds(Scene.RICH, 0, 5, "judge", 0, 0);
        Check.bounds(Scene.NEW, 0, 5, "judge", 0, 0);
        Check.notNow(Scene.NEW, "judge", 0);
        for (int r = 0; r < 4; r++) {
            Check.notNow(Scene.ROWS, "judge", r);
        }
        Check.finds(Scene.RICH, Check.NOTHING, "judge", 3);
        Check.finds(Scene.RICH, Check.SIZE, "judge", 2);
        Check.finds(Scene.RICH, Check.UNLIKE, "judge", 0);
        found(FightBounds.RING, Check.SIZE, "judge", new int[13]);
        found(FightBounds.RING, 0, "judge", new int[12]);
        found(FightBounds.RING, Check.SIZE, "judge", Check.with(new int[13], 0, -1));
        found(FightBounds.RING, Check.UNLIKE, "judge", 4);
        found(FightBounds.RING, Check.UNLIKE, "judge", -1);
        found(FightBounds.RING, Check.UNLIKE, "judge", 3, 0, 4);
        found(FightBounds.RING, Check.UNLIKE, "judge", Check.with(new int[12], 11, Check.LEAST));
        found(FightBounds.RING, Check.UNLIKE, "judge", Check.MOST);
        found(FightBounds.RING, 0, "judge", 3);
        found("ssf05f05", Check.UNLIKE, "judge", 0);
    }

    /** A ROW 0 in a NIGHT: refused by a FINDING (and asked() stays), or taken, if that is 0. */
    private static void found(String night, int finding, String name, int... row) {
        ShapeDuel x = rows(night, row);
        x.row(5, 1);
        x.lay(5, 0, 77);
        x.at(5, 0);
        int answer = name.equals("judge") ? x.judge(0) : name.equals("shown") ? x.shown(0, 5) : x.must(0, 0);
        String what = name + " of " + java.util.Arrays.toString(row);
        Check.due(what + " is refused", finding > 0 ? 1 : 0, answer == Check.FINDING ? 1 : 0);
        Check.due(what + " finding()", finding, x.finding());
        if (finding > 0) {
            Check.due(what + " findings()", 1, x.findings(finding));
            Check.due(what + " asked() stays", 77, x.asked());
            Check.rowIs(x, 5, 77);
        }
    }

    private static void shown() {
        Check.says(34, "SHAPES shown one behind the other in a ROW (by turns, from who is to CHANGE on; 8 at most): by how "
            + "many rows of CHANGES it can have been; the first comes to another ROW (anew;");
        for (int to = 0; to < 6; to++) {
            ShapeDuel x = Scene.RICH.make();
            Check.write(x, 2, FightBounds.ALL_FOUR);
            x.night(2);
            Check.rowOf(x, 4, 0, 1, 2, 0, 1, 2, 0, 1);
            Check.gives(x, 65536, "shown", 4, to);
            Check.rowIs(x, to, 0, 2, 1, 0, 2, 1, 0, 2);
        }
        ShapeDuel x = rows(THREE_WAYS);
        x.row(1, 4);
        Check.gives(x, 1, "shown", 0, 1);
        Check.rowIs(x, 1);
        Check.rowOf(x, 0, 1);
        Check.gives(x, 3, "shown", 0, 1);
        Check.rowIs(x, 1, 0);
        Check.rowOf(x, 0, 1, 2);
        Check.gives(x, 3, "shown", 0, 1);
        Check.rowIs(x, 1, 0, 4);
        x.fire(0, 2);
        Check.gives(x, 2, "shown", 0, 1);
        x.fire(0, 0);
        Check.gives(x, 0, "shown", 0, 1);
        x.fire(0, 3);
        x.go(2);
        Check.rowOf(x, 0, 2);
        Check.gives(x, 1, "shown", 0, 1);
        Check.rowIs(x, 1, 4);
        Check.gives(x, 1, "count", 2);
        Check.due("shown() is not asked", 4, x.asked());
    }

    /** Of two CHANGES that show the same SHAPE the dear one leaves too little FIRE for the next but one. */
    private static void shownForFire() {
        Check.says(34, "by how many rows of CHANGES it can have been;");
        String[] cheapOf0 = {"ss0s1s2x011x014x024x132f05f05", "ss0s1s2x014x011x024x132f05f05"};
        String[] cheapOf1 = {"ss0s1s2s3x011x021x024x131x242f05f05", "ss0s1s2s3x011x024x021x131x242f05f05"};
        for (int first = 0; first < 2; first++) {
            ShapeDuel x = rows(cheapOf0[first], 1, 2, 3);
            Check.gives(x, 1, "shown", 0, 1);
            Check.rowIs(x, 1, first, 2, 3);
            Check.gives(x, 8 + (1 << first), "must", 0, 0);
            Check.gives(x, 4, "must", 1, 0);
            ShapeDuel y = rows(cheapOf1[first], 1, 2, 3, 4);
            Check.gives(y, 1, "shown", 0, 1);
            Check.rowIs(y, 1, 0, 1 + first, 3, 4);
            Check.gives(y, 9, "must", 0, 0);
            Check.gives(y, 16 + (2 << first), "must", 1, 0);
        }
    }

    /** BEES go round, each time by four CHANGES of other COSTS: the ways of both FIGHTERS hang on their FIRE alone. */
    private static void shownForAllFires() {
        int[][] costs = {{1, 2, 3, 1}, {3, 1, 2, 5}};
        int[] shapes = {0, 1, 2, 0, 1, 2, 0, 1};
        int[] from = {0, 2, 1, 0, 2, 1, 0, 2};
        for (int[] cost : costs) {
            StringBuilder night = new StringBuilder("b12b02b01");
            for (int c : cost) {
                night.append("x10").append(c).append("x02").append(c).append("x21").append(c);
            }
            for (int all = 0; all < 36 * 9; all++) {
                int[] fire = {all % 6, all / 6 % 6};
                int n = all / 36;
                ShapeDuel x = rows(night + "f1" + fire[0] + "f2" + fire[1], java.util.Arrays.copyOf(shapes, n));
                int ways = waysFor(cost, fire[0], (n + 1) / 2) * waysFor(cost, fire[1], n / 2);
                Check.gives(x, ways, "shown", 0, 1);
                int[] first = new int[n];
                for (int i = 0; i < n && ways > 0; i++) {
                    int c = firstFor(cost, fire[i % 2], (n - i + 1) / 2);
                    fire[i % 2] -= cost[c];
                    first[i] = from[i] + 3 * c;
                }
                if (ways > 0) {
                    Check.rowIs(x, 1, first);
                }
            }
        }
    }

    private static int waysFor(int[] cost, int fire, int many) {
        int ways = many == 0 ? 1 : 0;
        for (int i = 0; i < cost.length && many > 0; i++) {
            ways += cost[i] <= fire ? waysFor(cost, fire - cost[i], many - 1) : 0;
        }
        return ways;
    }

    private static int firstFor(int[] cost, int fire, int many) {
        for (int i = 0; i < cost.length; i++) {
            if (cost[i] <= fire && waysFor(cost, fire - cost[i], many - 1) > 0) {
                return i;
            }
        }
        return -1;
    }

    private static void shownStays() {
        Check.says(34, "if there is none, that ROW stays as it is).");
        ShapeDuel x = rows(THREE_WAYS, 2, 2);
        Check.rowOf(x, 1, 5, 6);
        x.row(2, 0);
        x.row(3, 40);
        Check.gives(x, 0, "shown", 0, 1);
        Check.rowIs(x, 1, 5, 6);
        Check.gives(x, 0, "shown", 0, 2);
        Check.rowIs(x, 2);
        Check.gives(x, 0, "shown", 0, 3);
        Check.rowIs(x, 3, new int[40]);
        Check.gives(x, 0, "shown", 0, 4);
        Check.missing(x, 4);
        Check.gives(x, 0, "shown", 0, 0);
        Check.rowIs(x, 0, 2, 2);
        ShapeDuel still = rows("ssf05f05", 1);
        Check.gives(still, 0, "shown", 0, 5);
        Check.missing(still, 5);
    }

    private static void must() {
        Check.says(35, "CHANGES (bits) that a FIGHTER must KNOW, if SHAPES were shown so: those in all such rows; 0, if "
            + "there are none.");
        ShapeDuel x = rows(THREE_WAYS, 1, 2);
        Check.gives(x, 0, "must", 0, 0);
        Check.gives(x, 16, "must", 1, 0);
        x.teach(0, 0, 0);
        x.teach(0, 1, 0);
        Check.gives(x, 4, "must", 0, 0);
        Check.gives(x, 16, "must", 1, 0);
        Check.tells(x, 28, "fighter", 0, 3);
        Check.tells(x, 31, "fighter", 1, 3);
        x.teach(0, 2, 0);
        Check.gives(x, 0, "must", 0, 0);
        Check.gives(x, 0, "must", 1, 0);
        ShapeDuel none = rows(THREE_WAYS);
        Check.gives(none, 0, "must", 0, 0);
        Check.gives(none, 0, "must", 1, 0);
        ShapeDuel bees = rows(FightBounds.ALL_FOUR, 0, 1, 2, 0, 1, 2, 0, 1);
        Check.gives(bees, 0, "must", 0, 0);
        for (int k = 0; k < 9; k++) {
            bees.teach(1, k, 0);
        }
        Check.gives(bees, 7 << 9, "must", 1, 0);
        Check.gives(bees, 0, "must", 0, 0);
        bees.go(0);
        Check.rowOf(bees, 0, 1);
        Check.gives(bees, 1 << 11, "must", 1, 0);
    }

    /** shown(r, 5) and must(0, r) refuse a ROW alike. */
    private static void refusedInOrder(String name, int toBehind) {
        Check.says(name.equals("shown") ? 34 : 35, name.equals("shown")
            ? "BAD; STATE: no FIGHTERS; NOTHING; SIZE: more than 8; UNLIKE: no SHAPE. (In this order.)"
            : "BAD; STATE; NOTHING; SIZE; UNLIKE. (In this order.)");
        int which = 1 - toBehind;
        for (Scene scene : new Scene[] {Scene.RICH, Scene.NEW}) {
            Check.bounds(scene, 0, 5, name, which, 1, 1);
        }
        Check.notNow(Scene.NEW, name, args(toBehind, 3));
        for (int r = 0; r < 4; r++) {
            Check.notNow(Scene.ROWS, name, args(toBehind, r));
        }
        Check.finds(Scene.RICH, Check.NOTHING, name, args(toBehind, 3));
        Check.finds(Scene.RICH, Check.SIZE, name, args(toBehind, 2));
        Check.finds(Scene.RICH, Check.UNLIKE, name, args(toBehind, 0));
        found(THREE_WAYS, Check.SIZE, name, new int[9]);
        found(THREE_WAYS, Check.SIZE, name, Check.with(new int[9], 0, 9));
        found(THREE_WAYS, 0, name, new int[8]);
        found(THREE_WAYS, 0, name, Check.with(new int[8], 7, 2));
        found(THREE_WAYS, Check.UNLIKE, name, Check.with(new int[8], 7, 3));
        found(THREE_WAYS, Check.UNLIKE, name, 3);
        found(THREE_WAYS, Check.UNLIKE, name, -1);
        found(THREE_WAYS, Check.UNLIKE, name, 1, Check.LEAST);
        found(THREE_WAYS, Check.UNLIKE, name, Check.MOST, 1);
    }

    private static int[] args(int toBehind, int r) {
        return toBehind == 1 ? new int[] {r, 4} : new int[] {1, r};
    }

    private static void mustFighter() {
        Check.says(34, "BAD; STATE: no FIGHTERS;");
        Check.bounds(Scene.RICH, 0, 5, "shown", 1, 1, 0);
        Check.bounds(Scene.NEW, 0, 5, "shown", 1, 1, 0);
        Check.bad(Scene.RICH, "shown", 3, 6);
        Check.bad(Scene.RICH, "shown", 2, -1);
        Check.says(35, "BAD; STATE;");
        Check.bounds(Scene.RICH, 0, 1, "must", 0, 0, 1);
        Check.bounds(Scene.NEW, 0, 1, "must", 0, 0, 0);
        Check.bad(Scene.RICH, "must", 2, 3);
        Check.bad(Scene.RICH, "must", -1, 2);
        Check.notNow(Scene.NEW, "must", 1, 0);
    }
}
