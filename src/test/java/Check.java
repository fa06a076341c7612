import java.lang.reflect.Method;
import java.util.ArrayList;
import java.util.Arrays;
import java.util.HashMap;
import java.util.List;
import java.util.Map;

/** What the boundary tests share: the sentence that is tested, what is due, and that a refused call changes nothing. */
final class Check {
    static final int BAD = -1, FULL = -2, FINDING = -3, STATE = -4, NONE = -9;
    static final int NOTHING = 1, BEYOND = 2, UNLIKE = 3, NOUGHT = 4, SIZE = 5;
    static final int LEAST = Integer.MIN_VALUE, MOST = Integer.MAX_VALUE;

    private static final Map<String, Method> FACE = new HashMap<>();
    private static String sentence = "";
    private static int checks = 0;
    private static int wrong = 0;

    static {
        for (Method m : ShapeDuel.class.getMethods()) {
            if (m.getDeclaringClass() == ShapeDuel.class) {
                FACE.put(m.getName(), m);
            }
        }
    }

    private Check() {
    }

    static int checks() {
        return checks;
    }

    static int wrong() {
        return wrong;
    }

    static Iterable<Method> face() {
        return FACE.values();
    }

    /** What follows tests this sentence of the document. */
    static void says(int promise, String words) {
        sentence = (promise == 0 ? "Terms" : "promise " + promise) + ": '" + words + "'";
        hold("the document says so", Doc.quote(promise, words));
    }

    static void hold(String what, boolean so) {
        checks++;
        if (!so) {
            wrong++;
            System.out.println(sentence + " - not so: " + what);
        }
    }

    static void due(String what, long want, long got) {
        checks++;
        if (got != want) {
            wrong++;
            System.out.println(sentence + " - " + what + " answered " + got + ", due is " + want);
        }
    }

    // ---- calls by name

    static long call(ShapeDuel x, String name, int... args) {
        Object[] boxed = new Object[args.length];
        for (int i = 0; i < args.length; i++) {
            boxed[i] = args[i];
        }
        try {
            return ((Number) FACE.get(name).invoke(x, boxed)).longValue();
        } catch (ReflectiveOperationException e) {
            hold(name + Arrays.toString(args) + " answers: " + e.getCause(), false);
            return Long.MIN_VALUE;
        }
    }

    static void gives(ShapeDuel x, long want, String name, int... args) {
        due(name + Arrays.toString(args), want, call(x, name, args));
    }

    /** The answer, and what asked() tells behind it. */
    static void asks(ShapeDuel x, long want, int asked, String name, int... args) {
        gives(x, want, name, args);
        due(name + Arrays.toString(args) + " asked()", asked, x.asked());
    }

    /** Answers 1, and asked() tells the rest. */
    static void tells(ShapeDuel x, int asked, String name, int... args) {
        asks(x, 1, asked, name, args);
    }

    static void chances(ShapeDuel x, long upper, long lower, String name) {
        gives(x, 1, name);
        due(name + " upper()", upper, x.upper());
        due(name + " lower()", lower, x.lower());
    }

    // ---- refused calls

    static void bad(Scene scene, String name, int... args) {
        refused(scene, BAD, 0, name, args);
    }

    static void notNow(Scene scene, String name, int... args) {
        refused(scene, STATE, 0, name, args);
    }

    static void full(Scene scene, String name, int... args) {
        refused(scene, FULL, 0, name, args);
    }

    static void finds(Scene scene, int finding, String name, int... args) {
        refused(scene, FINDING, finding, name, args);
    }

    /** One argument just outside its bounds and far outside is BAD, just inside it is not. */
    static void bounds(Scene scene, int least, int most, String name, int which, int... args) {
        for (int outside : new int[] {LEAST, least - 1, most + 1, MOST}) {
            bad(scene, name, with(args, which, outside));
        }
        for (int inside : new int[] {least, most}) {
            hold(name + Arrays.toString(with(args, which, inside)) + " is not BAD",
                call(scene.make(), name, with(args, which, inside)) != BAD);
        }
    }

    static int[] with(int[] args, int which, int value) {
        int[] changed = args.clone();
        changed[which] = value;
        return changed;
    }

    /** What is refused changes nothing but finding(), findings(): the same as with a twin that was not asked. */
    static void refused(Scene scene, int answer, int finding, String name, int... args) {
        ShapeDuel one = scene.make();
        ShapeDuel twin = scene.make();
        String what = scene + "." + name + Arrays.toString(args);
        int[] found = findingsOf(one);
        due(what, answer, call(one, name, args));
        if (finding > 0) {
            found[0] = finding;
            found[finding]++;
        }
        hold(what + " finding(), findings() " + Arrays.toString(found), Arrays.equals(found, findingsOf(one)));
        hold(what + " changes nothing", everything(twin).equals(everything(one)));
    }

    /** finding(), then findings(1) to findings(5). */
    static int[] findingsOf(ShapeDuel x) {
        int[] found = new int[6];
        found[0] = x.finding();
        for (int f = 1; f <= 5; f++) {
            found[f] = x.findings(f);
        }
        return found;
    }

    /** All that can be seen of an object but its findings; it is another one afterwards. */
    static List<Long> everything(ShapeDuel x) {
        List<Long> seen = new ArrayList<>(List.of((long) x.asked(), x.upper(), x.lower(), x.digest()));
        seen.add((long) x.turn());
        seen.add((long) x.can(0));
        seen.add((long) x.can(1));
        seen.add((long) x.wins());
        unwind(x, seen);
        for (int k = 0; k < 3; k++) {
            seen.add((long) x.on(k));
            seen.add(x.digest());
            unwind(x, seen);
        }
        for (int i = 0; i < x.count(0); i++) {
            for (int j = 0; j < x.count(0); j++) {
                seen.add((long) x.beat(i, j, 0));
            }
        }
        return seen;
    }

    private static void unwind(ShapeDuel x, List<Long> seen) {
        for (int n = x.count(2) - 1; n >= 0; n--) {
            seen.add((long) x.undo(n));
            seen.add(x.digest());
        }
    }

    // ---- ROWS, TEXTS, NIGHTS

    static void write(ShapeDuel x, int t, String s) {
        x.text(t, s.length());
        for (int i = 0; i < s.length(); i++) {
            x.put(t, i, s.charAt(i));
        }
    }

    static ShapeDuel nightOf(String s) {
        ShapeDuel x = new ShapeDuel();
        write(x, 0, s);
        due("night of '" + s + "'", s.replaceAll("[xf].*|[^a-z]", "").length(), x.night(0));
        return x;
    }

    static void rowOf(ShapeDuel x, int r, int... values) {
        x.row(r, values.length);
        for (int i = 0; i < values.length; i++) {
            x.lay(r, i, values[i]);
        }
    }

    /** A ROW is just so long and has these numbers. */
    static void rowIs(ShapeDuel x, int r, int... values) {
        for (int i = 0; i < values.length; i++) {
            tells(x, values[i], "at", r, i);
        }
        gives(x, FINDING, "at", r, values.length);
        due("row " + r + " ends there: finding()", BEYOND, x.finding());
    }

    static void missing(ShapeDuel x, int r) {
        gives(x, FINDING, "at", r, 0);
        due("row " + r + " is missing: finding()", NOTHING, x.finding());
    }

    /** SHAPE, FIRE and USED of a FIGHTER. */
    static void fighterIs(ShapeDuel x, int w, int shape, int fire, int used) {
        tells(x, shape, "fighter", w, 0);
        tells(x, fire, "fighter", w, 1);
        tells(x, used, "fighter", w, 2);
    }

    /** Goes on, with FIRE whenever it is wanted, till so many CHANGES are done. */
    static void goOnTo(ShapeDuel x, int done) {
        for (int i = x.count(2); i < done; i++) {
            x.fire(i % 2, 5);
            hold("change " + i + " can be", x.go(Integer.numberOfTrailingZeros(x.can(i % 2))) > 0);
        }
    }
}
