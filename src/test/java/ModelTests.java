import java.lang.reflect.Method;
import java.util.ArrayList;
import java.util.Arrays;
import java.util.Comparator;
import java.util.List;
import java.util.Random;

/** Long runs of calls by fixed seeds: every answer of ShapeDuel against that of PlainModel. */
public final class ModelTests {
    private static final int CALLS = 512;
    private static final String[] TOLD = {"asked", "upper", "lower", "finding", "digest"};
    private static final String[] KINDS = {"sgbawm", "b", "bw", "s", "sg", "am", "bg", "sgbawmbbbb"};

    private final Random random;
    private final ShapeDuel duel = new ShapeDuel();
    private final PlainModel model = new PlainModel();
    private final List<String> calls = new ArrayList<>();
    private final List<Method> methods = new ArrayList<>();
    private String wrong = null;

    private ModelTests(long seed) {
        random = new Random(seed);
        for (Method m : ShapeDuel.class.getDeclaredMethods()) {
            if (java.lang.reflect.Modifier.isPublic(m.getModifiers())) {
                methods.add(m);
            }
        }
        methods.sort(Comparator.comparing(Method::getName));
    }

    public static void main(String[] args) throws Exception {
        int runs = args.length > 0 ? Integer.parseInt(args[0]) : 1500;
        long first = args.length > 1 ? Long.parseLong(args[1]) : 1;
        int bad = 0;
        for (int run = 0; run < runs && bad < 3; run++) {
            ModelTests test = new ModelTests(first + run);
            test.run();
            if (test.wrong != null) {
                bad++;
                System.out.println("seed " + (first + run) + ": " + test.wrong);
                System.out.println("  behind " + test.calls);
            }
        }
        System.out.println("ModelTests: " + runs + " runs, " + bad + " wrong");
        if (bad > 0) {
            System.exit(1);
        }
    }

    private void run() throws Exception {
        while (calls.size() < CALLS / 2 && wrong == null) {
            int what = random.nextInt(60);
            if (what == 0 || calls.isEmpty() && random.nextInt(4) > 0) {
                writeNight();
            } else if (what < 8) {
                layRow();
            } else if (what < 18) {
                goOn();
            } else if (what < 20) {
                study();
            } else if (what < 22) {
                unteach();
            } else if (what == 22) {
                fightLong();
            } else {
                Method m = methods.get(random.nextInt(methods.size()));
                if (!(m.getName().equals("night") && random.nextInt(8) > 0)) {
                    ask(m.getName(), numbersFor(m));
                }
            }
        }
    }

    private Object ask(String name, int... args) throws Exception {
        if (wrong != null) {
            return 0;
        }
        Object got = call(duel, name, args);
        Object want = call(model, name, args);
        String call = name + Arrays.toString(args);
        compare(call, got, want);
        for (String told : TOLD) {
            compare(call + " then " + told, call(duel, told), call(model, told));
        }
        for (int f = 1; f <= 5; f++) {
            compare(call + " then findings " + f, call(duel, "findings", f), call(model, "findings", f));
        }
        calls.add(call + "=" + want);
        return want;
    }

    private void compare(String call, Object got, Object want) {
        if (wrong == null && !got.equals(want)) {
            wrong = call + " answered " + got + ", due is " + want;
        }
    }

    private static Object call(Object on, String name, int... args) throws Exception {
        Class<?>[] types = new Class<?>[args.length];
        Object[] boxed = new Object[args.length];
        for (int i = 0; i < args.length; i++) {
            types[i] = int.class;
            boxed[i] = args[i];
        }
        return on.getClass().getMethod(name, types).invoke(on, boxed);
    }

    private int[] numbersFor(Method m) {
        int[] args = new int[m.getParameterCount()];
        for (int i = 0; i < args.length; i++) {
            args[i] = number();
        }
        if (m.getName().equals("lots") && random.nextInt(4) > 0) {
            args[0] = 1 + random.nextInt(20);
            args[1] = 1 + random.nextInt(2147483646);
        }
        return args;
    }

    /** Small numbers mostly, edges often, large ones seldom. */
    private int number() {
        switch (random.nextInt(12)) {
            case 0: return random.nextInt(14) - 1;
            case 1: return random.nextInt(84) - 2;
            case 2: return random.nextInt(6) == 0 ? random.nextInt() : 0;
            case 3: return random.nextInt(40) == 0 ? Integer.MIN_VALUE : 1;
            case 4: return random.nextInt(40) == 0 ? Integer.MAX_VALUE : 5;
            default: return random.nextInt(5);
        }
    }

    private void layRow() throws Exception {
        int r = random.nextInt(6);
        int n = random.nextInt(random.nextInt(4) == 0 ? 15 : 5);
        ask("row", r, n);
        int most = 1 + random.nextInt(12);
        for (int i = 0; i < n; i++) {
            ask("lay", r, i, random.nextInt(most));
        }
        ask("judge", r);
        ask("shown", r, random.nextInt(6));
        ask("must", random.nextInt(2), r);
    }

    /** Does a CHANGE that can be, lays the SHAPES of a row that can be, or asks for fire, so that fights go on. */
    private void goOn() throws Exception {
        Object turn = ask("turn");
        int w = turn.equals(1) ? 1 : 0;
        int can = (Integer) ask("can", w);
        if (can > 0 && random.nextInt(3) > 0) {
            ask("go", pick(can));
        } else if (random.nextInt(3) == 0) {
            ask("fire", random.nextInt(2), random.nextInt(6));
        } else if (can > 0) {
            ask("keep", 0);
            int n = (Integer) ask("lots", 1 + random.nextInt(8), 1 + random.nextInt(1000000));
            if (n > 0) {
                showDone();
            }
        } else {
            ask("undo", random.nextInt(3));
        }
    }

    /** What was done since keep(0) is shown again from there. */
    private void showDone() throws Exception {
        int all = (Integer) ask("told", 1);
        int[] row = new int[all];
        for (int i = 0; i < all; i++) {
            ask("at", 1, i);
            row[i] = duel.asked();
        }
        int from = (Integer) ask("on", 0);
        if (all - from < 0) {
            return;
        }
        ask("row", 2, all - from);
        for (int i = from; i < all; i++) {
            ask("change", row[i], 1);
            ask("lay", 2, i - from, duel.asked());
        }
        ask("shown", 2, 3);
        ask("must", 0, 2);
        ask("must", 1, 2);
        ask("judge", 3);
    }

    private int pick(int bits) {
        int left = bits;
        for (int n = random.nextInt(Integer.bitCount(bits)); n > 0; n--) {
            left &= left - 1;
        }
        return Integer.numberOfTrailingZeros(left);
    }

    private void writeNight() throws Exception {
        String s = nightText();
        if (random.nextInt(6) == 0) {
            s = spoilt(s);
        }
        if (s.length() > 80) {
            s = s.replace(" ", "");
        }
        if (s.length() > 80) {
            return;
        }
        int t = random.nextInt(4);
        ask("text", t, s.length());
        for (int i = 0; i < s.length(); i++) {
            call(duel, "put", t, i, (int) s.charAt(i));
            call(model, "put", t, i, (int) s.charAt(i));
        }
        calls.add("'" + s + "'");
        ask("fault", t);
        ask("night", t);
        study();
        for (String name : new String[] {"rings", "cover", "alike", "best"}) {
            ask(name);
        }
    }

    private void study() throws Exception {
        for (String name : new String[] {"wins", "ends", "odds", "hopes"}) {
            ask(name);
        }
        ask("line", 4);
        ask("judge", 4);
        for (int w = 0; w < 2; w++) {
            ask("least", w);
            ask("learn", w);
            ask("needs", w);
        }
        ask("lines", random.nextInt(7));
    }

    /** Makes fights that hang on what one KNOWS. */
    private void unteach() throws Exception {
        int w = random.nextInt(2);
        for (int n = random.nextInt(8); n > 0; n--) {
            ask("teach", w, random.nextInt(12), random.nextInt(5) == 0 ? 1 : 0);
        }
        study();
    }

    /** Fire again and again, towards the 40 CHANGES that there is room for. */
    private void fightLong() throws Exception {
        for (int n = 0; n < 12; n++) {
            ask("fire", 0, 5);
            ask("fire", 1, 5);
            ask("lots", 1 + random.nextInt(8), 1 + random.nextInt(1000000));
        }
        int done = (Integer) ask("told", 0);
        int can = (Integer) ask("can", done & 1);
        if (can > 0) {
            ask("go", pick(can));
        }
        ask("undo", done - random.nextInt(3));
    }

    private String spoilt(String s) {
        int p = random.nextInt(s.length());
        String signs = " 0123456789sgbawmxfzX~" + (char) 0 + (char) 255;
        String sign = "" + signs.charAt(random.nextInt(signs.length()));
        switch (random.nextInt(4)) {
            case 0: return s.substring(0, p) + sign + s.substring(p);
            case 1: return s.substring(0, p) + sign + s.substring(p + 1);
            case 2: return s.substring(0, p) + s.substring(p + 1);
            default: return s.substring(0, p);
        }
    }

    private String nightText() {
        StringBuilder b = new StringBuilder();
        int n = 2 + random.nextInt(4);
        String letters = KINDS[random.nextInt(KINDS.length)];
        boolean rich = random.nextBoolean();
        int dense = rich ? 9 : 2 + random.nextInt(8);
        for (int i = 0; i < n; i++) {
            b.append(letters.charAt(random.nextInt(letters.length())));
            for (int j = 0; j < 5; j++) {
                if ((j < n && j != i || random.nextInt(20) == 0) && random.nextInt(10) < dense) {
                    b.append(j);
                }
            }
            blanks(b);
        }
        int[] from = new int[5];
        int most = rich ? 12 : 1 + random.nextInt(12);
        int dear = 1 + random.nextInt(random.nextInt(3) == 0 ? 5 : 2);
        for (int k = 0; k < most; k++) {
            int f = random.nextInt(n);
            int t = (f + 1 + random.nextInt(n - 1)) % n;
            if (from[f]++ < 4) {
                b.append('x').append(f).append(t).append(1 + random.nextInt(dear));
                blanks(b);
            }
        }
        for (int w = 0; w < 2; w++) {
            b.append('f').append(random.nextInt(n)).append(!rich && random.nextInt(3) == 0 ? random.nextInt(6) : 5);
            blanks(b);
        }
        return b.toString();
    }

    private void blanks(StringBuilder b) {
        while (random.nextInt(6) == 0) {
            b.append(' ');
        }
    }
}
