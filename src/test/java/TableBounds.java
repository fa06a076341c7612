/** Promises 39 to 42: tables of who BEATS whom. */
final class TableBounds {
    private static final String NONE_OF_FIVE = "sssssf00f00";
    private static final String ALL_OF_FIVE = "s1234s0234s0134s0124s0123f00f00";
    private static final String RING_OF_FIVE = "s1s2s3s4s0f00f00";
    private static final String LADDER = "s1234s234s34s4sf00f00";
    private static final String ONE = "sf00f00";
    private static final String TWO = "s1s0f00f00";
    /** A ring, but that the BEAST 0 never BEATS the MAN 1. */
    private static final String NO_RING = "a1m2s0f00f00";

    private TableBounds() {
    }

    static void run() {
        rings();
        cover();
        alike();
        best();
    }

    /** One behind the other on one object: nothing of the one ahead stays. */
    private static void allFour(String night, int... answers) {
        ShapeDuel x = Check.nightOf(night);
        String[] names = {"rings", "cover", "alike", "best"};
        for (int i = 0; i < 16; i++) {
            int n = (i * 3 + i / 4) % 4;
            Check.asks(x, answers[2 * n], answers[2 * n + 1], names[n]);
        }
    }

    private static void table(String name, String night, int answer, int asked) {
        Check.asks(Check.nightOf(night), answer, asked, name);
    }

    private static void rings() {
        Check.says(39, "How many rings of three there are: SHAPES x, y, z (x the least), x BEATS y, y BEATS z, z BEATS x; "
            + "SHAPES that are in none by asked() (bits).");
        Check.asks(new ShapeDuel(), 0, 0, "rings");
        table("rings", ONE, 0, 1);
        table("rings", TWO, 0, 3);
        table("rings", NONE_OF_FIVE, 0, 31);
        table("rings", ALL_OF_FIVE, 20, 0);
        table("rings", RING_OF_FIVE, 0, 31);
        table("rings", LADDER, 0, 31);
        table("rings", NO_RING, 0, 7);
        table("rings", NO_RING.replace('m', 's'), 1, 0);
        table("rings", "s2s0s1f00f00", 1, 0);
        table("rings", "s1s2s0s0sf00f00", 1, 24);
        table("rings", "sss3s4s2f00f00", 1, 3);
    }

    private static void cover() {
        Check.says(40, "The fewest SHAPES so that each SHAPE that any other one BEATS is BEATEN by one of them; which (bits; "
            + "the least) by asked().");
        Check.asks(new ShapeDuel(), 0, 0, "cover");
        table("cover", ONE, 0, 0);
        table("cover", NONE_OF_FIVE, 0, 0);
        table("cover", TWO, 2, 3);
        table("cover", ALL_OF_FIVE, 2, 3);
        table("cover", RING_OF_FIVE, 5, 31);
        table("cover", LADDER, 1, 1);
        table("cover", NO_RING, 2, 6);
        table("cover", "sssss0123f00f00", 1, 16);
        table("cover", "s1s0s01s01f00f00", 1, 4);
        table("cover", "a1mf00f00", 0, 0);
    }

    private static void alike() {
        Check.says(41, "In how many ways SHAPES can change places so that who BEATS whom is as it was (KINDS aside; as it is "
            + "counts, too); SHAPES that some other one can come to be so (bits) by asked().");
        Check.asks(new ShapeDuel(), 1, 0, "alike");
        table("alike", ONE, 1, 0);
        table("alike", TWO, 2, 3);
        table("alike", NONE_OF_FIVE, 120, 31);
        table("alike", ALL_OF_FIVE, 120, 31);
        table("alike", RING_OF_FIVE, 5, 31);
        table("alike", LADDER, 1, 0);
        table("alike", "s1s0ssf00f00", 4, 15);
        table("alike", "s1ssf00f00", 1, 0);
        table("alike", "sgbawf00f00", 120, 31);
        table("alike", "a1mf00f00", 2, 3);
        table("alike", "s1mf00f00", 1, 0);
        table("alike", "s34ss1s2sf00f00", 1, 0);
    }

    private static void best() {
        Check.says(42, "Of which SHAPE there are most more that it BEATS than that BEAT it (the first); how many more "
            + "(perhaps below 0) by asked().");
        table("best", ONE, 0, 0);
        table("best", TWO, 0, 0);
        table("best", NONE_OF_FIVE, 0, 0);
        table("best", ALL_OF_FIVE, 0, 0);
        table("best", LADDER, 0, 4);
        table("best", "ss0s01s012s0123f00f00", 4, 4);
        table("best", "sss0s0f00f00", 2, 1);
        table("best", "a1ms0f00f00", 2, 1);
        table("best", NO_RING, 1, 1);
        allFour(LADDER, 0, 31, 1, 1, 1, 0, 0, 4);
        allFour(ALL_OF_FIVE, 20, 0, 2, 3, 120, 31, 0, 0);
        allFour(NONE_OF_FIVE, 0, 31, 0, 0, 120, 31, 0, 0);
        Check.says(42, "NONE: no SHAPES.");
        ShapeDuel x = Scene.ROWS.make();
        Check.asks(x, Check.NONE, -8, "best");
        Check.asks(new ShapeDuel(), Check.NONE, 0, "best");
        Check.hold("no finding", new ShapeDuel().finding() == 0);
    }
}
