/** Promises 1 to 9: a new object, ROWS and TEXTS. */
final class RowBounds {
    private RowBounds() {
    }

    static void run() {
        newObject();
        row();
        lay();
        at();
        tear();
        copy();
        copyRefused();
        mean();
        text();
        put();
    }

    private static void newObject() {
        Check.says(1, "No ROWS, TEXTS, SHAPES, FIGHTERS.");
        for (int r = 0; r < 6; r++) {
            Check.finds(Scene.NEW, Check.NOTHING, "at", r, 0);
        }
        for (int t = 0; t < 4; t++) {
            Check.finds(Scene.NEW, Check.NOTHING, "fault", t);
        }
        for (int what = 0; what <= 8; what++) {
            Check.gives(new ShapeDuel(), 0, "count", what);
        }
        Check.bad(Scene.NEW, "shape", 0, 0);
        Check.bad(Scene.NEW, "fighter", 0, 0);
        Check.notNow(Scene.NEW, "turn");
        Check.due("another object's night is not its", 0, afterAnother().count(0));
    }

    private static ShapeDuel afterAnother() {
        Scene.RICH.make();
        return new ShapeDuel();
    }

    private static void row() {
        Check.says(2, "A ROW is there with n ints 0: n.");
        for (int n : new int[] {0, 1, 39, 40}) {
            for (int r = 0; r < 6; r++) {
                ShapeDuel x = Scene.RICH.make();
                Check.gives(x, n, "row", r, n);
                Check.rowIs(x, r, new int[n]);
            }
        }
        ShapeDuel x = Scene.RICH.make();
        Check.gives(x, 1, "row", 2, 1);
        Check.gives(x, 40, "row", 2, 40);
        Check.rowIs(x, 2, new int[40]);
        Check.says(2, "BAD: also n above 40; SIZE: below 0.");
        Check.bounds(Scene.RICH, 0, 5, "row", 0, 0, 1);
        for (int r : new int[] {0, 2, 3}) {
            Check.bad(Scene.RICH, "row", r, 41);
            Check.bad(Scene.RICH, "row", r, Check.MOST);
            Check.finds(Scene.RICH, Check.SIZE, "row", r, -1);
            Check.finds(Scene.RICH, Check.SIZE, "row", r, Check.LEAST);
        }
        Check.bad(Scene.RICH, "row", 6, -1);
        Check.bad(Scene.RICH, "row", -1, Check.LEAST);
    }

    private static void lay() {
        Check.says(3, "Place i of a ROW is v: what it was, told by asked(): 1.");
        ShapeDuel x = Scene.RICH.make();
        Check.tells(x, Check.LEAST, "lay", 2, 0, Check.MOST);
        Check.tells(x, Check.MOST, "lay", 2, 0, -1);
        Check.tells(x, Check.MOST, "lay", 2, 39, Check.LEAST);
        Check.tells(x, 0, "at", 2, 1);
        Check.tells(x, 0, "at", 2, 38);
        Check.tells(x, -1, "at", 2, 0);
        Check.tells(x, Check.LEAST, "at", 2, 39);
        Check.tells(x, 7, "lay", 0, 0, 7);
        Check.says(3, "BAD; NOTHING; BEYOND.");
        Check.bounds(Scene.RICH, 0, 5, "lay", 0, 0, 0, 4);
        Check.bad(Scene.RICH, "lay", 6, 99, 4);
        places("lay", 0);
        Check.finds(Scene.RICH, Check.NOTHING, "lay", 3, 40, 4);
    }

    private static void at() {
        Check.says(4, "Place i of a ROW, told by asked(): 1.");
        ShapeDuel x = Scene.RICH.make();
        Check.tells(x, 7, "at", 0, 0);
        Check.tells(x, 9, "at", 0, 2);
        Check.tells(x, Check.LEAST, "at", 2, 0);
        Check.tells(x, Check.MOST, "at", 2, 39);
        Check.says(4, "BAD; NOTHING; BEYOND.");
        Check.bounds(Scene.RICH, 0, 5, "at", 0, 0, 0);
        Check.bad(Scene.RICH, "at", -1, 99);
        places("at");
        Check.finds(Scene.RICH, Check.NOTHING, "at", 3, 40);
    }

    /** Places that there are not in ROWS of three, none and forty; ROWS that are missing. */
    private static void places(String name, int... more) {
        int[][] beyond = {{0, -1}, {0, 3}, {0, Check.LEAST}, {0, Check.MOST}, {1, -1}, {1, 0}, {2, -1}, {2, 40}};
        for (int[] place : beyond) {
            Check.finds(Scene.RICH, Check.BEYOND, name, joined(place, more));
        }
        for (int r = 3; r < 6; r++) {
            Check.finds(Scene.RICH, Check.NOTHING, name, joined(new int[] {r, 0}, more));
        }
    }

    private static int[] joined(int[] a, int[] b) {
        int[] all = java.util.Arrays.copyOf(a, a.length + b.length);
        System.arraycopy(b, 0, all, a.length, b.length);
        return all;
    }

    private static void tear() {
        Check.says(5, "A ROW is missing: 1.");
        for (int r = 0; r < 3; r++) {
            ShapeDuel x = Scene.RICH.make();
            Check.gives(x, 1, "tear", r);
            Check.missing(x, r);
            Check.gives(x, 2, "count", 6);
            Check.gives(x, Check.FINDING, "tear", r);
            Check.gives(x, 3, "row", r, 3);
            Check.rowIs(x, r, 0, 0, 0);
        }
        Check.says(5, "BAD; NOTHING.");
        Check.bounds(Scene.RICH, 0, 5, "tear", 0, 0);
        for (int r = 3; r < 6; r++) {
            Check.finds(Scene.RICH, Check.NOTHING, "tear", r);
        }
    }

    private static void copy() {
        Check.says(6, "n places of a ROW, from one on, come to those of another one (perhaps itself) from one on, "
            + "as if taken ahead: 1.");
        ShapeDuel x = new ShapeDuel();
        Check.rowOf(x, 0, 1, 2, 3, 4, 5);
        Check.rowOf(x, 1, 7, 8, 9);
        Check.gives(x, 1, "copy", 0, 2, 1, 0, 3);
        Check.rowIs(x, 1, 3, 4, 5);
        Check.gives(x, 1, "copy", 1, 2, 0, 4, 1);
        Check.gives(x, 1, "copy", 1, 0, 0, 0, 0);
        Check.gives(x, 1, "copy", 1, 3, 0, 5, 0);
        Check.rowIs(x, 0, 1, 2, 3, 4, 5);
        Check.gives(x, 1, "copy", 0, 0, 0, 1, 4);
        Check.rowIs(x, 0, 1, 1, 2, 3, 4);
        Check.gives(x, 1, "copy", 0, 1, 0, 0, 4);
        Check.rowIs(x, 0, 1, 2, 3, 4, 4);
        Check.gives(x, 1, "copy", 0, 0, 0, 0, 5);
        Check.rowIs(x, 0, 1, 2, 3, 4, 4);
        Check.due("copy() is not asked", 4, x.asked());
        ShapeDuel y = Scene.RICH.make();
        y.row(5, 40);
        Check.gives(y, 1, "copy", 2, 0, 5, 0, 40);
        Check.tells(y, Check.LEAST, "at", 5, 0);
        Check.tells(y, Check.MOST, "at", 5, 39);
        Check.gives(y, 1, "copy", 1, 0, 1, 0, 0);
    }

    private static void copyRefused() {
        Check.says(6, "BAD; SIZE: n below 0; NOTHING: either; BEYOND: not so many there.");
        Check.bounds(Scene.RICH, 0, 5, "copy", 0, 0, 0, 2, 0, 1);
        Check.bounds(Scene.RICH, 0, 5, "copy", 2, 0, 0, 2, 0, 1);
        Check.bad(Scene.RICH, "copy", 6, 0, 0, 0, -1);
        Check.bad(Scene.RICH, "copy", 3, 0, 6, 0, -1);
        Check.finds(Scene.RICH, Check.SIZE, "copy", 0, 0, 2, 0, -1);
        Check.finds(Scene.RICH, Check.SIZE, "copy", 0, 0, 2, 0, Check.LEAST);
        Check.finds(Scene.RICH, Check.SIZE, "copy", 3, 0, 2, 0, -1);
        Check.finds(Scene.RICH, Check.SIZE, "copy", 0, 9, 2, 0, -1);
        Check.finds(Scene.RICH, Check.NOTHING, "copy", 3, 0, 2, 0, 0);
        Check.finds(Scene.RICH, Check.NOTHING, "copy", 0, 0, 3, 0, 0);
        Check.finds(Scene.RICH, Check.NOTHING, "copy", 4, 0, 3, 0, 1);
        Check.finds(Scene.RICH, Check.NOTHING, "copy", 0, 9, 3, 0, 1);
        Check.finds(Scene.RICH, Check.NOTHING, "copy", 3, 0, 0, 9, 1);
        int[][] beyond = {{0, 0, 2, 0, 4}, {0, 1, 2, 0, 3}, {0, 3, 2, 0, 1}, {2, 0, 0, 0, 4}, {2, 0, 0, 1, 3},
            {2, 0, 0, 3, 1}, {0, -1, 2, 0, 1}, {2, 0, 0, -1, 1}, {1, 0, 0, 0, 1}, {0, 0, 1, 0, 1}, {2, 0, 2, 1, 40},
            {2, 1, 2, 0, 40}, {2, 0, 2, 0, 41}, {0, 4, 2, 0, 0}, {2, 0, 0, 4, 0}, {0, -1, 2, 0, 0}};
        for (int[] args : beyond) {
            Check.finds(Scene.RICH, Check.BEYOND, "copy", args);
        }
        int most = Check.MOST;
        int[][] wraps = {{0, most, 2, 0, 1}, {0, 1, 2, 0, most}, {2, 0, 0, most, 1}, {2, 0, 0, 1, most},
            {0, most, 2, most, most}, {0, Check.LEAST, 2, 0, 1}, {0, Check.LEAST, 2, Check.LEAST, most}};
        for (int[] args : wraps) {
            Check.finds(Scene.RICH, Check.BEYOND, "copy", args);
        }
    }

    private static void mean() {
        Check.says(7, "The mean of a ROW's ints, cut, told by asked(): 1.");
        int least = Check.LEAST;
        int most = Check.MOST;
        int[][] rows = {{5}, {0, 1}, {0, -1}, {-1, -2}, {1, 2}, {2, 2, 1}, {-2, -2, -1}, {most, most}, {least, least},
            {most, least}, {most, 1}, {least}, {most}};
        int[] means = {5, 0, 0, -1, 1, 1, -1, most, least, 0, 1 << 30, least, most};
        ShapeDuel x = new ShapeDuel();
        for (int i = 0; i < rows.length; i++) {
            Check.rowOf(x, 0, rows[i]);
            Check.tells(x, means[i], "mean", 0);
        }
        int[] all = new int[40];
        for (int value : new int[] {most, least, -1}) {
            java.util.Arrays.fill(all, value);
            ShapeDuel y = new ShapeDuel();
            Check.rowOf(y, 5, all);
            Check.tells(y, value, "mean", 5);
        }
        Check.says(7, "BAD; NOTHING; NOUGHT.");
        Check.bounds(Scene.RICH, 0, 5, "mean", 0, 0);
        Check.finds(Scene.RICH, Check.NOTHING, "mean", 3);
        Check.finds(Scene.RICH, Check.NOUGHT, "mean", 1);
    }

    private static void text() {
        Check.says(8, "A TEXT is there with n blanks: n.");
        for (int n : new int[] {0, 1, 79, 80}) {
            for (int t = 0; t < 4; t++) {
                ShapeDuel x = Scene.RICH.make();
                Check.gives(x, n, "text", t, n);
                for (int i = 0; i < n; i++) {
                    Check.gives(x, 1032, "put", t, i, 0);
                }
                Check.gives(x, Check.FINDING, "put", t, n, 0);
                Check.due("no longer: finding()", Check.BEYOND, x.finding());
            }
        }
        ShapeDuel x = Scene.RICH.make();
        Check.gives(x, 80, "text", 0, 80);
        Check.gives(x, 80, "fault", 0);
        Check.says(8, "BAD: also n above 80; SIZE: below 0.");
        Check.bounds(Scene.RICH, 0, 3, "text", 0, 0, 1);
        for (int t : new int[] {0, 1, 2}) {
            Check.bad(Scene.RICH, "text", t, 81);
            Check.bad(Scene.RICH, "text", t, Check.MOST);
            Check.finds(Scene.RICH, Check.SIZE, "text", t, -1);
            Check.finds(Scene.RICH, Check.SIZE, "text", t, Check.LEAST);
        }
        Check.bad(Scene.RICH, "text", 4, -1);
        Check.bad(Scene.RICH, "text", -1, 81);
    }

    private static void put() {
        Check.says(9, "Byte i of a TEXT is v, cut to a byte: what it was, and 1000 more.");
        int[] values = {0, 127, 128, 255, 256, 383, 384, -1, -128, -129, -256, Check.MOST, Check.LEAST, 65, 0x141};
        int[] bytes = {0, 127, -128, -1, 0, 127, -128, -1, -128, 127, 0, -1, 0, 65, 65};
        ShapeDuel x = new ShapeDuel();
        x.text(3, 80);
        for (int i : new int[] {0, 79}) {
            int was = 32;
            for (int v = 0; v < values.length; v++) {
                Check.gives(x, 1000 + was, "put", 3, i, values[v]);
                was = bytes[v];
            }
        }
        Check.gives(x, 1032, "put", 3, 1, 0);
        Check.gives(x, 1032, "put", 3, 78, 0);
        Check.due("put() is not asked", 0, x.asked());
        Check.says(9, "BAD; NOTHING; BEYOND.");
        Check.bounds(Scene.RICH, 0, 3, "put", 0, 0, 0, 65);
        Check.bad(Scene.RICH, "put", 4, 99, 65);
        Check.finds(Scene.RICH, Check.NOTHING, "put", 2, 0, 65);
        Check.finds(Scene.RICH, Check.NOTHING, "put", 2, 80, 65);
        int[][] beyond = {{1, -1}, {1, 2}, {1, Check.LEAST}, {1, Check.MOST}, {0, Scene.HIVE.length()}};
        for (int[] place : beyond) {
            Check.finds(Scene.RICH, Check.BEYOND, "put", place[0], place[1], 65);
        }
        ShapeDuel y = new ShapeDuel();
        y.text(0, 0);
        y.text(1, 80);
        Check.gives(y, Check.FINDING, "put", 0, 0, 65);
        Check.gives(y, Check.FINDING, "put", 1, 80, 65);
        Check.gives(y, 2, "findings", Check.BEYOND);
    }
}
