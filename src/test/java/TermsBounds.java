import java.lang.reflect.Method;
import java.util.Arrays;
import java.util.Set;

/** What the Terms say of all calls: what is refused, in which order, and that it changes nothing. */
final class TermsBounds {
    private static final int[] WILD = {Check.LEAST, -1, 0, 1, 2, 3, 4, 5, 6, 8, 9, 12, 13, 20, 21, 40, 41, 80, 81, Check.MOST};
    private static final int[] WILD_FOR_THREE = {-1, 0, 1, 2, 3, 4, 6, 12, 40, Check.MOST};
    private static final int[] WILD_FOR_FIVE = {-1, 0, 3, 6, 40};
    private static final Set<String> TELLING = Set.of("asked", "upper", "lower", "digest");

    private TermsBounds() {
    }

    static void run() {
        order();
        none();
        changesNothing();
        whatIsFound();
        bits();
        rowsAndTexts();
        fiveHundredAndTwelve();
    }

    private static void order() {
        Check.says(0, "Refused is, the first of these that fits, in this order: BAD -1 (a number that is none, or not as "
            + "told), FULL -2, STATE -4 (not now), SPENT -6 (more than told), FINDING -3 (finding() tells which), unless a "
            + "call says so otherwise.");
        Check.due("BAD", -1, ShapeDuel.BAD);
        Check.due("FULL", -2, ShapeDuel.FULL);
        Check.due("STATE", -4, ShapeDuel.STATE);
        Check.due("SPENT", -6, ShapeDuel.SPENT);
        Check.due("FINDING", -3, ShapeDuel.FINDING);
        String[] badAheadOfState = {"line", "keep", "lines", "judge"};
        for (String name : badAheadOfState) {
            Check.bad(Scene.NEW, name, -1);
            Check.bad(Scene.NEW, name, 99);
            Check.notNow(Scene.NEW, name, 0);
        }
        Check.bad(Scene.NEW, "row", 6, -1);
        Check.bad(Scene.NEW, "text", 4, -1);
        Check.bad(Scene.NEW, "at", 6, 0);
        Check.bad(Scene.NEW, "put", 4, 0, 0);
        Check.bad(Scene.NEW, "copy", 6, 0, 0, 0, -1);
        Check.bad(Scene.RICH, "mark", 3, 1);
        Check.notNow(Scene.NEW, "judge", 5);
        Check.notNow(Scene.NEW, "shown", 5, 4);
        Check.notNow(Scene.NEW, "must", 0, 5);
    }

    private static void none() {
        Check.says(0, "NONE -9.");
        Check.due("NONE", -9, ShapeDuel.NONE);
        Check.gives(new ShapeDuel(), -9, "best");
    }

    /** Each call with wild numbers, in each scene: wherever it is refused, all is as with a twin. */
    private static void changesNothing() {
        Check.says(0, "What is refused changes nothing but finding(), findings().");
        for (Method m : Check.face()) {
            int many = m.getParameterCount();
            int[] wild = many < 3 ? WILD : many == 3 ? WILD_FOR_THREE : WILD_FOR_FIVE;
            int all = (int) Math.pow(wild.length, many);
            for (int n = 0; n < all && !TELLING.contains(m.getName()); n++) {
                int[] args = new int[many];
                int left = n;
                for (int i = 0; i < many; i++) {
                    args[i] = wild[left % wild.length];
                    left /= wild.length;
                }
                for (Scene scene : many < 3 ? Scene.values() : new Scene[] {Scene.NEW, Scene.RICH}) {
                    changesNothing(scene, m.getName(), args);
                }
            }
        }
    }

    private static void changesNothing(Scene scene, String name, int[] args) {
        ShapeDuel one = scene.make();
        int[] before = Check.findingsOf(one);
        long answer = Check.call(one, name, args);
        if (answer >= 0 || answer < Check.STATE) {
            Check.hold(name + Arrays.toString(args) + " finds nothing", Arrays.equals(before, Check.findingsOf(one)));
            return;
        }
        int[] after = Check.findingsOf(one);
        if (answer == Check.FINDING) {
            before[0] = after[0];
            before[after[0]]++;
        }
        Check.hold(name + Arrays.toString(args) + " findings", Arrays.equals(before, after));
        Check.hold(scene + "." + name + Arrays.toString(args) + " changes nothing",
            Check.everything(scene.make()).equals(Check.everything(one)));
    }

    private static void whatIsFound() {
        Check.says(0, "FINDINGS: 1 NOTHING (a ROW, a TEXT, a kept NIGHT that is missing), 2 BEYOND (a place that there is "
            + "not), 3 UNLIKE (a SHAPE of another KIND; a number that is none), 4 NOUGHT (shared among none), 5 SIZE (fewer "
            + "than none; too many).");
        Check.finds(Scene.RICH, 1, "at", 3, 0);
        Check.finds(Scene.RICH, 1, "fault", 2);
        Check.finds(Scene.RICH, 1, "on", 1);
        Check.finds(Scene.RICH, 2, "at", 0, 3);
        Check.finds(Scene.RICH, 2, "put", 1, 2, 0);
        Check.finds(Scene.RICH, 3, "mark", 0, 1);
        Check.finds(Scene.RICH, 3, "judge", 0);
        Check.finds(Scene.RICH, 4, "mean", 1);
        Check.finds(Scene.RICH, 5, "row", 0, -1);
        Check.finds(Scene.RICH, 5, "judge", 2);
    }

    private static void bits() {
        Check.says(0, "Sets (of SHAPES, of CHANGES) are told by bits.");
        ShapeDuel x = Check.nightOf("sssss03f00f00");
        Check.tells(x, 9, "shape", 4, 1);
        Check.tells(x, 16, "shape", 3, 2);
        ShapeDuel bees = Check.nightOf(FightBounds.ALL_FOUR);
        Check.gives(bees, 1 + 8 + 64 + 512, "can", 0);
    }

    private static void rowsAndTexts() {
        Check.says(0, "ROWS 0 .. 5 are rows of 0 to 40 ints, TEXTS 0 .. 3 rows of 0 to 80 bytes, or missing (at first).");
        ShapeDuel x = new ShapeDuel();
        for (int r = 0; r < 6; r++) {
            Check.missing(x, r);
            Check.gives(x, 40, "row", r, 40);
            Check.tells(x, 0, "lay", r, 39, Check.LEAST + r);
            Check.tells(x, 0, "lay", r, 0, Check.MOST - r);
        }
        for (int r = 0; r < 6; r++) {
            Check.tells(x, Check.LEAST + r, "at", r, 39);
            Check.tells(x, Check.MOST - r, "at", r, 0);
        }
        for (int t = 0; t < 4; t++) {
            Check.gives(x, Check.FINDING, "put", t, 0, 0);
            Check.gives(x, 80, "text", t, 80);
            Check.gives(x, 1032, "put", t, 79, 100 + t);
            Check.gives(x, 1032, "put", t, 0, -100 - t);
        }
        for (int t = 0; t < 4; t++) {
            Check.gives(x, 1100 + t, "put", t, 79, 0);
            Check.gives(x, 900 - t, "put", t, 0, 0);
        }
        Check.bad(Scene.NEW, "row", 6, 0);
        Check.bad(Scene.NEW, "text", 4, 0);
    }

    /** All calls up to the 512th are answered as promised. */
    private static void fiveHundredAndTwelve() {
        ShapeDuel x = Scene.FORTY.make();
        ShapeDuel y = new ShapeDuel();
        for (int call = 1; call <= 511; call++) {
            Check.gives(y, Check.FINDING, "tear", 0);
        }
        Check.gives(y, 511, "findings", Check.NOTHING);
        for (int i = 0; i < 100; i++) {
            Check.hold("a search again and again", x.odds() == 1 && x.hopes() == 1);
        }
    }
}
