/** Promises 12 to 18: SHAPES, CHANGES and FIGHTERS looked at and changed. */
final class NightBounds {
    private NightBounds() {
    }

    static void run() {
        shape();
        change();
        markTold();
        markRefused();
        fighter();
        teach();
        fire();
        beat();
    }

    private static void shape() {
        Check.says(12, "Of a SHAPE: 0 its KIND, 1 which it BEATS (bits), 2 which BEAT it (bits), 3 how many CHANGES lead "
            + "to it, told by asked(): 1.");
        ShapeDuel x = Check.nightOf("s1234s0234s0134s0124s0123x101x101x101x101x201x201x201x201x301x301x301x301f00f00");
        for (int i = 0; i < 5; i++) {
            Check.tells(x, 0, "shape", i, 0);
            Check.tells(x, 31 - (1 << i), "shape", i, 1);
            Check.tells(x, 31 - (1 << i), "shape", i, 2);
            Check.tells(x, i == 0 ? 12 : 0, "shape", i, 3);
        }
        ShapeDuel man = Check.nightOf("a1m0f00f00");
        Check.tells(man, 0, "shape", 0, 1);
        Check.tells(man, 2, "shape", 0, 2);
        Check.tells(man, 1, "shape", 1, 1);
        Check.tells(man, 0, "shape", 1, 2);
        ShapeDuel led = Check.nightOf("ssx011f00f00");
        led.teach(0, 0, 0);
        led.teach(1, 0, 0);
        Check.tells(led, 1, "shape", 1, 3);
        Check.says(12, "BAD.");
        Check.bounds(Scene.RICH, 0, 2, "shape", 0, 0, 1);
        Check.bounds(Scene.RICH, 0, 3, "shape", 1, 0, 0);
        Check.bad(Scene.RICH, "shape", 4, 0);
        for (int what = 0; what < 4; what++) {
            Check.bad(Scene.NEW, "shape", 0, what);
        }
    }

    private static void change() {
        Check.says(13, "Of a CHANGE: 0 from which, 1 into which, 2 its COST, 3 who KNOWS it (bits of FIGHTERS), told by "
            + "asked(): 1.");
        ShapeDuel x = Check.nightOf("gaaawx045x401f00f00");
        int[][] due = {{0, 4, 5, 3}, {4, 0, 1, 3}};
        for (int what = 0; what < 4; what++) {
            Check.tells(x, due[0][what], "change", 0, what);
            Check.tells(x, due[1][what], "change", 1, what);
        }
        x.teach(1, 0, 0);
        Check.tells(x, 1, "change", 0, 3);
        Check.tells(x, 3, "change", 1, 3);
        x.teach(0, 0, 0);
        Check.tells(x, 0, "change", 0, 3);
        x.teach(1, 0, 1);
        Check.tells(x, 2, "change", 0, 3);
        Check.says(13, "BAD.");
        Check.bounds(Scene.RICH, 0, 5, "change", 0, 0, 1);
        Check.bounds(Scene.RICH, 0, 3, "change", 1, 0, 0);
        Check.bad(Scene.RICH, "change", 11, 0);
        Check.bad(Scene.NEW, "change", 0, 0);
        Check.gives(Check.nightOf("ssf00f00"), Check.BAD, "change", 0, 0);
        ShapeDuel twelve = Check.nightOf(Scene.LARGE);
        Check.tells(twelve, 2, "change", 11, 0);
        Check.gives(twelve, Check.BAD, "change", 12, 0);
    }

    private static void markTold() {
        Check.says(14, "What a SHAPE that IS of a KIND tells: a GRAIN (MAN, too) what the cheapest CHANGE that leads to it "
            + "COSTS (NONE: none), a BEES (SWARM, too) which FIGHTERS USED it (bits), a BEAST how many CHANGES begin "
            + "from it, a SWARM how many SHAPES BEAT it, a MAN how many BEASTS are told to beat it.");
        for (String grain : new String[] {"g", "m"}) {
            ShapeDuel x = Check.nightOf(grain + "ssx015x205x104x205f00f00");
            Check.gives(x, 4, "mark", 0, 1);
            x.teach(0, 2, 0);
            x.teach(1, 2, 0);
            Check.gives(x, 4, "mark", 0, 1);
            Check.gives(Check.nightOf(grain + "sx011f00f00"), Check.NONE, "mark", 0, 1);
            Check.gives(Check.nightOf(grain + "sx101f00f00"), 1, "mark", 0, 1);
            Check.gives(Check.nightOf(grain + "sx105f00f00"), 5, "mark", 0, 1);
        }
        for (String bees : new String[] {"b", "w"}) {
            Check.gives(Check.nightOf("s" + bees + "f00f00"), 0, "mark", 1, 2);
            Check.gives(Check.nightOf("s" + bees + "f10f00"), 1, "mark", 1, 2);
            Check.gives(Check.nightOf("s" + bees + "f00f10"), 2, "mark", 1, 2);
            Check.gives(Check.nightOf("s" + bees + "f10f10"), 3, "mark", 1, 2);
        }
        ShapeDuel used = Scene.RICH.make();
        Check.gives(used, 3, "mark", 0, 2);
        Check.gives(used, 2, "mark", 1, 2);
        Check.gives(used, 1, "mark", 2, 2);
        Check.due("mark() is not asked", -8, used.asked());
        Check.gives(Check.nightOf("asx101f00f00"), 0, "mark", 0, 3);
        Check.gives(Check.nightOf("asx011x012x101x013x014f00f00"), 4, "mark", 0, 3);
        Check.gives(Check.nightOf("w0123sssf00f00"), 0, "mark", 0, 4);
        Check.gives(Check.nightOf("w0a0s0m0b0f00f00"), 4, "mark", 0, 4);
        Check.gives(Check.nightOf("m0s0s0g0b0f00f00"), 0, "mark", 0, 5);
        Check.gives(Check.nightOf("m0a0a0a0a0f00f00"), 4, "mark", 0, 5);
        Check.gives(Check.nightOf("m1234aaaa0f00f00"), 1, "mark", 0, 5);
    }

    private static void markRefused() {
        Check.says(14, "BAD: also KIND 0; UNLIKE.");
        String[] kindsOf = {"", "1", "2", "3", "24", "15"};
        for (int letter = 0; letter < 6; letter++) {
            ShapeDuel x = Check.nightOf("sgbawm".charAt(letter) + "f00f00");
            int unlike = 0;
            for (int kind = 1; kind <= 5; kind++) {
                boolean is = kindsOf[letter].indexOf('0' + kind) >= 0;
                unlike += is ? 0 : 1;
                Check.due("mark of " + letter + " as " + kind, is ? 0 : 1, x.mark(0, kind) == Check.FINDING ? 1 : 0);
            }
            Check.gives(x, unlike, "findings", Check.UNLIKE);
            Check.gives(x, Check.BAD, "mark", 0, 0);
        }
        for (int kind : new int[] {1, 3, 4, 5}) {
            Check.finds(Scene.RICH, Check.UNLIKE, "mark", 0, kind);
        }
        Check.bounds(Scene.RICH, 0, 2, "mark", 0, 0, 2);
        Check.bounds(Scene.RICH, 1, 5, "mark", 1, 0, 2);
        Check.bad(Scene.RICH, "mark", 3, 1);
        Check.bad(Scene.RICH, "mark", -1, 1);
        Check.bad(Scene.NEW, "mark", 0, 1);
    }

    private static void fighter() {
        Check.says(15, "Of a FIGHTER: 0 the SHAPE, 1 the FIRE, 2 USED SHAPES (bits), 3 CHANGES that that one KNOWS (bits), "
            + "told by asked(): 1.");
        ShapeDuel x = Check.nightOf(Scene.LARGE);
        Check.fighterIs(x, 0, 4, 1, 16);
        Check.fighterIs(x, 1, 0, 1, 1);
        Check.tells(x, 4095, "fighter", 0, 3);
        for (int k = 0; k < 12; k++) {
            x.teach(1, k, 0);
        }
        Check.tells(x, 0, "fighter", 1, 3);
        Check.tells(x, 4095, "fighter", 0, 3);
        Check.tells(Check.nightOf("sf00f00"), 0, "fighter", 0, 3);
        Check.says(15, "BAD.");
        Check.bounds(Scene.RICH, 0, 1, "fighter", 0, 0, 0);
        Check.bounds(Scene.RICH, 0, 3, "fighter", 1, 0, 0);
        for (int w = 0; w < 2; w++) {
            Check.bad(Scene.NEW, "fighter", w, 0);
            Check.bad(Scene.ROWS, "fighter", w, 3);
        }
    }

    private static void teach() {
        Check.says(16, "A FIGHTER KNOWS a CHANGE (1), or not (0): what it was.");
        ShapeDuel x = Check.nightOf(Scene.LARGE);
        for (int k : new int[] {0, 11}) {
            Check.gives(x, 1, "teach", 0, k, 1);
            Check.gives(x, 1, "teach", 0, k, 0);
            Check.gives(x, 0, "teach", 0, k, 0);
            Check.tells(x, 4095 - (1 << k), "fighter", 0, 3);
            Check.tells(x, 4095, "fighter", 1, 3);
            Check.gives(x, 0, "teach", 0, k, 1);
            Check.tells(x, 4095, "fighter", 0, 3);
        }
        Check.due("teach() is not asked", 4095, x.asked());
        Check.says(16, "BAD.");
        Check.bounds(Scene.RICH, 0, 1, "teach", 0, 0, 0, 0);
        Check.bounds(Scene.RICH, 0, 5, "teach", 1, 0, 0, 0);
        Check.bounds(Scene.RICH, 0, 1, "teach", 2, 0, 0, 0);
        Check.bad(Scene.RICH, "teach", 0, 11, 0);
        Check.bad(Scene.NEW, "teach", 0, 0, 1);
        Check.gives(Check.nightOf("sf00f00"), Check.BAD, "teach", 0, 0, 1);
    }

    private static void fire() {
        Check.says(17, "The FIRE of a FIGHTER is v (0 .. 5): what it was.");
        ShapeDuel x = Check.nightOf("sf00f05");
        for (int v = 5; v >= 0; v--) {
            Check.gives(x, v == 5 ? 0 : v + 1, "fire", 0, v);
            Check.gives(x, v == 5 ? 5 : v + 1, "fire", 1, v);
            Check.gives(x, 2 * v, "count", 5);
        }
        Check.says(17, "BAD.");
        Check.bounds(Scene.RICH, 0, 1, "fire", 0, 0, 1);
        Check.bounds(Scene.RICH, 0, 5, "fire", 1, 0, 1);
        Check.bad(Scene.NEW, "fire", 0, 1);
        Check.bad(Scene.NEW, "fire", 1, 1);
    }

    private static void beat() {
        Check.says(18, "A SHAPE is told to beat another one (1), or not (0): what it was.");
        ShapeDuel x = Check.nightOf("a4sssmf00f00");
        Check.gives(x, 1, "beat", 0, 4, 1);
        Check.tells(x, 0, "shape", 0, 1);
        Check.gives(x, 1, "mark", 4, 5);
        Check.gives(x, 1, "beat", 0, 4, 0);
        Check.gives(x, 0, "beat", 0, 4, 0);
        Check.gives(x, 0, "mark", 4, 5);
        Check.gives(x, 0, "beat", 4, 0, 1);
        Check.gives(x, 1, "beat", 4, 0, 1);
        Check.tells(x, 1, "shape", 4, 1);
        Check.tells(x, 16, "shape", 0, 2);
        Check.tells(x, 0, "shape", 4, 2);
        Check.due("beat() is not asked", 0, x.asked());
        Check.says(18, "BAD: also itself.");
        for (int i = 0; i < 3; i++) {
            Check.bad(Scene.RICH, "beat", i, i, 1);
            Check.bad(Scene.RICH, "beat", i, i, 0);
        }
        Check.bounds(Scene.RICH, 0, 2, "beat", 0, 0, 1, 0);
        Check.bounds(Scene.RICH, 0, 2, "beat", 1, 1, 0, 0);
        Check.bounds(Scene.RICH, 0, 1, "beat", 2, 0, 1, 0);
        Check.bad(Scene.RICH, "beat", 0, 4, 1);
        Check.bad(Scene.RICH, "beat", 4, 0, 1);
        Check.bad(Scene.NEW, "beat", 0, 1, 1);
    }
}
