import java.math.BigInteger;
import java.util.ArrayList;
import java.util.List;

/** Promises 43 to 49: what is told. */
final class TellBounds {
    private TellBounds() {
    }

    static void run() {
        asked();
        askedStays();
        chances();
        counts();
        findings();
        digestOfNew();
        digestOfRich();
    }

    private static void asked() {
        Check.says(43, "What the latest lay(), at(), mean(), shape(), change(), fighter(), turn(), wins(), ends(), lines(), "
            + "judge(), hopes(), rings(), cover(), alike(), best() that was not refused");
        ShapeDuel x = Scene.RICH.make();
        Check.tells(x, 9, "lay", 0, 2, 10);
        Check.tells(x, 10, "at", 0, 2);
        Check.tells(x, 3, "mean", 0);
        Check.tells(x, 2, "shape", 0, 0);
        Check.tells(x, 1, "change", 0, 1);
        Check.tells(x, 61, "fighter", 0, 3);
        Check.asks(x, 0, 0, "turn");
        x.fire(0, 0);
        Check.asks(x, 0, 1, "turn");
        Check.asks(x, 0, Check.NONE, "wins");
        Check.asks(x, 0, 0, "ends");
        Check.asks(x, 1, 1, "lines", 0);
        Check.asks(x, 0, 0, "judge", 1);
        x.fire(0, 5);
        Check.asks(x, 0, Check.NONE, "judge", 1);
        Check.asks(x, 1, 4, "hopes");
        Check.asks(x, 2, 0, "rings");
        Check.asks(x, 2, 3, "cover");
        Check.asks(x, 6, 7, "alike");
        Check.asks(x, 0, 0, "best");
    }

    private static void askedStays() {
        Check.says(43, "(nor NONE, but as told) told; 0 before.");
        Check.due("a new one", 0, new ShapeDuel().asked());
        ShapeDuel none = Scene.ROWS.make();
        Check.asks(none, Check.NONE, -8, "best");
        Check.asks(none, Check.STATE, -8, "wins");
        Check.asks(none, Check.FINDING, -8, "at", 0, 3);
        Check.asks(none, Check.BAD, -8, "at", 6, 0);
        ShapeDuel x = Scene.RICH.make();
        Object[][] others = {{"row", 4, 4}, {"copy", 0, 0, 4, 0, 2}, {"tear", 4}, {"text", 2, 1}, {"put", 2, 0, 65},
            {"fault", 2}, {"mark", 0, 2}, {"teach", 0, 0, 1}, {"fire", 0, 3}, {"beat", 0, 1, 1}, {"can", 0}, {"keep", 1},
            {"go", 4}, {"undo", 2}, {"told", 4}, {"on", 1}, {"line", 4}, {"least", 0}, {"learn", 0}, {"needs", 0},
            {"shown", 1, 4}, {"must", 0, 1}, {"odds"}, {"lots", 1, 1}, {"asked"}, {"upper"}, {"lower"}, {"count", 0},
            {"finding"}, {"findings", 1}, {"digest"}, {"night", 0}};
        for (Object[] other : others) {
            int[] args = new int[other.length - 1];
            for (int i = 0; i < args.length; i++) {
                args[i] = (Integer) other[i + 1];
            }
            Check.call(x, (String) other[0], args);
            Check.due(other[0] + "() is not asked", -8, x.asked());
        }
        Check.due("all calls but the 16 that are asked", 48 - 16, others.length);
    }

    private static void chances() {
        Check.says(44, "The upper number of the chances that were told last; 0 before.");
        Check.due("upper() of a new one", 0, new ShapeDuel().upper());
        Check.due("upper() of rows alone", 0, Scene.ROWS.make().upper());
        ShapeDuel x = Scene.RICH.make();
        Check.due("upper() of an earlier night", 2, x.upper());
        Check.says(45, "Its lower number; 1 before.");
        Check.due("lower() of a new one", 1, new ShapeDuel().lower());
        Check.due("lower() of rows alone", 1, Scene.ROWS.make().lower());
        Check.due("lower() of an earlier night", 3, x.lower());
        Check.notNow(Scene.ROWS, "odds");
        Check.notNow(Scene.ROWS, "hopes");
        x.wins();
        x.lots(1, 1);
        Check.due("upper() stays", 2, x.upper());
        Check.due("lower() stays", 3, x.lower());
        x.fire(1, 0);
        Check.chances(x, 0, 1, "odds");
        x.undo(2);
        x.fire(1, 1);
        Check.chances(x, 1, 1, "hopes");
    }

    private static void counts() {
        Check.says(46, "0 SHAPES, 1 CHANGES, 2 CHANGES done, 3 GRAINS (MEN, too), 4 BEES (SWARMS, too), 5 FIRE of both, 6 "
            + "ROWS, 7 TEXTS that are there, 8 kept NIGHTS.");
        int[] rich = {3, 6, 2, 0, 3, 5, 3, 3, 2};
        int[] rowsAlone = {0, 0, 0, 0, 0, 0, 3, 1, 0};
        int[] forty = {3, 6, 40, 0, 3, Scene.FORTY.make().count(5), 0, 1, 1};
        for (int what = 0; what <= 8; what++) {
            Check.gives(Scene.RICH.make(), rich[what], "count", what);
            Check.gives(Scene.ROWS.make(), rowsAlone[what], "count", what);
            Check.gives(Scene.FORTY.make(), forty[what], "count", what);
            Check.gives(Scene.NEW.make(), 0, "count", what);
        }
        ShapeDuel kinds = Check.nightOf("gmmbwf05f05");
        Check.gives(kinds, 3, "count", 3);
        Check.gives(kinds, 2, "count", 4);
        Check.gives(kinds, 10, "count", 5);
        ShapeDuel x = new ShapeDuel();
        for (int r = 0; r < 6; r++) {
            x.row(r, 0);
            x.row(r, 1);
            Check.gives(x, r + 1, "count", 6);
        }
        for (int t = 0; t < 4; t++) {
            x.text(t, 0);
            x.text(t, 1);
            Check.gives(x, t + 1, "count", 7);
        }
        Check.says(46, "BAD.");
        Check.bounds(Scene.RICH, 0, 8, "count", 0, 0);
        Check.bounds(Scene.NEW, 0, 8, "count", 0, 0);
    }

    private static void findings() {
        Check.says(47, "The latest FINDING (0 before any).");
        Check.due("finding() of a new one", 0, new ShapeDuel().finding());
        ShapeDuel x = Check.nightOf("sf00f00");
        Check.due("finding() behind fine calls", 0, x.finding());
        Check.gives(x, Check.BAD, "row", 6, -1);
        Check.gives(x, Check.BAD, "shape", 1, 0);
        Check.due("finding() behind BAD", 0, x.finding());
        x.row(0, 0);
        x.tear(5);
        Check.due("NOTHING", Check.NOTHING, x.finding());
        x.at(0, 0);
        Check.due("BEYOND", Check.BEYOND, x.finding());
        x.mark(0, 1);
        Check.due("UNLIKE", Check.UNLIKE, x.finding());
        x.mean(0);
        Check.due("NOUGHT", Check.NOUGHT, x.finding());
        x.text(0, -1);
        Check.due("SIZE", Check.SIZE, x.finding());
        x.row(0, 1);
        x.mean(0);
        x.lines(7);
        Check.due("the latest stays", Check.SIZE, x.finding());
        x.on(0);
        Check.due("NOTHING again", Check.NOTHING, x.finding());
        Check.says(48, "How often a FINDING (1 .. 5) was answered.");
        int[] often = {2, 1, 1, 1, 1};
        for (int f = 1; f <= 5; f++) {
            Check.gives(x, often[f - 1], "findings", f);
            Check.gives(new ShapeDuel(), 0, "findings", f);
        }
        for (int i = 0; i < 100; i++) {
            x.at(0, 1);
        }
        Check.gives(x, 101, "findings", Check.BEYOND);
        Check.gives(x, 2, "findings", Check.NOTHING);
        Check.says(48, "BAD.");
        Check.bounds(Scene.RICH, 1, 5, "findings", 0, 1);
        Check.bounds(Scene.NEW, 1, 5, "findings", 0, 1);
    }

    /** The sum in numbers without bounds, cut to a long at the very end. */
    private static long mixed(List<Integer> values) {
        BigInteger h = BigInteger.valueOf(17);
        for (int v : values) {
            h = h.multiply(BigInteger.valueOf(31)).add(BigInteger.valueOf(v));
        }
        return h.longValue();
    }

    private static void add(List<Integer> all, int... values) {
        for (int v : values) {
            all.add(v);
        }
    }

    private static void digestOfNew() {
        Check.says(49, "h = 17; then h = 31 h + v for each v: count() 0 to 8;");
        List<Integer> all = new ArrayList<>();
        add(all, 0, 0, 0, 0, 0, 0, 0, 0, 0);
        add(all, -1, -1, -1, -1, -1, -1, -1, -1, -1, -1, -1, -1, -1);
        Check.gives(new ShapeDuel(), mixed(all), "digest");
        ShapeDuel x = new ShapeDuel();
        long before = x.digest();
        x.at(0, 0);
        x.wins();
        x.rings();
        x.row(0, -1);
        Check.gives(x, before, "digest");
        x.row(0, 0);
        Check.hold("an empty row is not a missing one", x.digest() != before);
        x.tear(0);
        Check.gives(x, before, "digest");
    }

    private static void digestOfRich() {
        Check.says(49, "of each SHAPE shape() 0 to 3; of each CHANGE change() 0 to 3; of each FIGHTER fighter() 0 to 3; CHANGES "
            + "done; of each kept NIGHT how many were done (-1: missing); of each ROW its size (-1: missing) and places, of "
            + "each TEXT likewise.");
        ShapeDuel x = Scene.RICH.make();
        List<Integer> all = new ArrayList<>();
        add(all, 3, 6, 2, 0, 3, 5, 3, 3, 2);
        add(all, 2, 6, 6, 2, 2, 5, 5, 2, 2, 3, 3, 2);
        add(all, 0, 1, 1, 1, 1, 2, 1, 2, 2, 0, 1, 3, 0, 2, 2, 3, 2, 1, 2, 3, 1, 0, 2, 3);
        add(all, 2, 3, 5, 61, 0, 2, 3, 62);
        add(all, 3, 5);
        add(all, 1, -1, 2);
        add(all, 3, 7, -8, 9, 0, 40, Check.LEAST);
        add(all, new int[38]);
        add(all, Check.MOST, -1, -1, -1);
        x.put(1, 1, 200);
        x.put(1, 0, 127);
        add(all, Scene.HIVE.length());
        add(all, Scene.HIVE.chars().toArray());
        add(all, 2, 127, -56, -1, Scene.LARGE.length());
        add(all, Scene.LARGE.chars().toArray());
        Check.gives(x, mixed(all), "digest");
        Check.gives(x, mixed(all), "digest");
        x.text(1, 0);
        Check.hold("an empty text is not a full one", x.digest() != mixed(all));
    }
}
