/** Objects in a state in which a call is refused; made anew each time, by the same calls. */
enum Scene {
    /** Nothing is there. */
    NEW,
    /** Some ROWS, TEXTS and kept NIGHTS are there, some are missing; a larger NIGHT was there before this one. */
    RICH,
    /** As RICH, but no FIGHTERS ever came. */
    ROWS,
    /** 40 CHANGES are done, and who is to CHANGE still can. */
    FORTY;

    /** Five SHAPES, twelve CHANGES; chances 2 by 3. */
    static final String LARGE =
        "ss0s0s0s1x411x421x431x041x101x121x131x141x201x211x231x241f41f01";
    /** Three BEES that beat one another, with CHANGES round (0, 1, 2) and the other way (3, 4, 5). */
    static final String HIVE = "b12b02b01x011x121x201x022x212x102f05f15";

    ShapeDuel make() {
        ShapeDuel x = new ShapeDuel();
        switch (this) {
            case RICH:
                nights(x);
                strips(x);
                break;
            case ROWS:
                strips(x);
                break;
            case FORTY:
                forty(x);
                break;
            default:
        }
        return x;
    }

    /** Leaves FIGHTER 0 at 2 with FIRE 3, FIGHTER 1 at 0 with FIRE 2, CHANGE 4 alone for FIGHTER 0, who is to CHANGE. */
    private static void nights(ShapeDuel x) {
        Check.write(x, 3, LARGE);
        x.night(3);
        x.odds();
        Check.write(x, 0, HIVE);
        x.night(0);
        x.go(3);
        x.keep(0);
        x.fire(1, 4);
        x.go(5);
        x.teach(1, 0, 0);
        x.keep(2);
        x.teach(0, 1, 0);
        x.mark(0, 1);
    }

    /** ROWS 0 (three), 1 (none), 2 (forty) and TEXT 1 (a FAULT) are there, ROWS 3 to 5 and TEXT 2 are not. */
    private static void strips(ShapeDuel x) {
        Check.rowOf(x, 0, 7, -8, 9);
        x.row(1, 0);
        x.row(2, 40);
        x.lay(2, 0, Integer.MIN_VALUE);
        x.lay(2, 39, Integer.MAX_VALUE);
        Check.write(x, 1, "sz");
        x.at(5, 0);
        x.at(0, 3);
        x.mean(1);
        x.row(0, -1);
        x.at(0, 1);
    }

    private static void forty(ShapeDuel x) {
        Check.write(x, 0, HIVE);
        x.night(0);
        Check.goOnTo(x, 40);
        x.keep(1);
        x.fire(0, 5);
    }
}
