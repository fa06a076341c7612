import java.math.BigInteger;
import java.util.ArrayList;
import java.util.Arrays;
import java.util.HashSet;
import java.util.List;
import java.util.Set;
import java.util.TreeMap;
import java.util.TreeSet;

/**
 * The document written a second time, slowly and plainly, with sets, lists and fractions and
 * nothing remembered between positions, so that ModelTests can hold ShapeDuel against it.
 */
public final class PlainModel {
    private static final int BAD = -1, FULL = -2, FINDING = -3, STATE = -4, NONE = -9;
    private static final String LETTERS = "sgbawm";

    /** One FIGHTER at one time; never changed once made. */
    private record Who(int shape, int fire, Set<Integer> used) { }

    private record Change(int from, int into, int cost) { }

    private record Chance(BigInteger upper, BigInteger lower) {
        static final Chance ZERO = new Chance(BigInteger.ZERO, BigInteger.ONE);

        Chance reduced() {
            BigInteger g = upper.gcd(lower);
            return new Chance(upper.divide(g), lower.divide(g));
        }

        Chance plus(Chance o) {
            return new Chance(upper.multiply(o.lower).add(o.upper.multiply(lower)), lower.multiply(o.lower)).reduced();
        }

        Chance over(int n) {
            return new Chance(upper, lower.multiply(BigInteger.valueOf(n))).reduced();
        }

        Chance other() {
            return new Chance(lower.subtract(upper), lower);
        }

        boolean above(Chance o) {
            return upper.multiply(o.lower).compareTo(o.upper.multiply(lower)) > 0;
        }
    }

    /** All that keep() keeps: both now, both ahead of each CHANGE done, what they KNOW. */
    private static final class Night {
        List<Who> now = new ArrayList<>();
        List<List<Who>> ahead = new ArrayList<>();
        List<Integer> done = new ArrayList<>();
        List<Set<Integer>> knows = new ArrayList<>();

        Night twin() {
            Night n = new Night();
            n.now.addAll(now);
            n.ahead.addAll(ahead);
            n.done.addAll(done);
            for (Set<Integer> k : knows) {
                n.knows.add(new TreeSet<>(k));
            }
            return n;
        }
    }

    private final TreeMap<Integer, int[]> rows = new TreeMap<>();
    private final TreeMap<Integer, byte[]> texts = new TreeMap<>();
    private String kinds = "";
    private final Set<List<Integer>> told = new HashSet<>();
    private final List<Change> changes = new ArrayList<>();
    private Night night = null;
    private final TreeMap<Integer, Night> kept = new TreeMap<>();
    private final int[] found = new int[6];
    private int latest = 0;
    private int asked = 0;
    private Chance chance = Chance.ZERO;

    private int find(int f) {
        latest = f;
        found[f]++;
        return FINDING;
    }

    private static boolean in(int v, int low, int high) {
        return low <= v && v <= high;
    }

    // ---- 1

    public int row(int r, int n) {
        if (!in(r, 0, 5) || n > 40) return BAD;
        if (n < 0) return find(5);
        rows.put(r, new int[n]);
        return n;
    }

    public int lay(int r, int i, int v) {
        int told = at(r, i);
        if (told == 1) rows.get(r)[i] = v;
        return told;
    }

    public int at(int r, int i) {
        if (!in(r, 0, 5)) return BAD;
        if (!rows.containsKey(r)) return find(1);
        if (!in(i, 0, rows.get(r).length - 1)) return find(2);
        asked = rows.get(r)[i];
        return 1;
    }

    public int tear(int r) {
        if (!in(r, 0, 5)) return BAD;
        return rows.remove(r) == null ? find(1) : 1;
    }

    public int copy(int r, int i, int to, int j, int n) {
        if (!in(r, 0, 5) || !in(to, 0, 5)) return BAD;
        if (n < 0) return find(5);
        if (!rows.containsKey(r) || !rows.containsKey(to)) return find(1);
        int[] a = rows.get(r).clone();
        int[] b = rows.get(to);
        if (i < 0 || j < 0 || (long) i + n > a.length || (long) j + n > b.length) return find(2);
        for (int m = 0; m < n; m++) b[j + m] = a[i + m];
        return 1;
    }

    public int mean(int r) {
        if (!in(r, 0, 5)) return BAD;
        if (!rows.containsKey(r)) return find(1);
        if (rows.get(r).length == 0) return find(4);
        BigInteger sum = BigInteger.ZERO;
        for (int v : rows.get(r)) sum = sum.add(BigInteger.valueOf(v));
        asked = sum.divide(BigInteger.valueOf(rows.get(r).length)).intValueExact();
        return 1;
    }

    public int text(int t, int n) {
        if (!in(t, 0, 3) || n > 80) return BAD;
        if (n < 0) return find(5);
        byte[] b = new byte[n];
        Arrays.fill(b, (byte) ' ');
        texts.put(t, b);
        return n;
    }

    public int put(int t, int i, int v) {
        if (!in(t, 0, 3)) return BAD;
        if (!texts.containsKey(t)) return find(1);
        if (!in(i, 0, texts.get(t).length - 1)) return find(2);
        int was = texts.get(t)[i];
        texts.get(t)[i] = (byte) v;
        return 1000 + was;
    }

    public int fault(int t) {
        if (!in(t, 0, 3)) return BAD;
        if (!texts.containsKey(t)) return find(1);
        return faultOf(signs(t));
    }

    private String signs(int t) {
        StringBuilder b = new StringBuilder();
        for (byte v : texts.get(t)) b.append((char) (v & 255));
        return b.toString();
    }

    /** Sign by sign: a sign either goes on with the open item, or begins one, or is a blank, or is the FAULT. */
    private static int faultOf(String s) {
        String sorts = "";
        String open = "";
        int[] fromOf = new int[5];
        for (int p = 0; p < s.length(); p++) {
            char c = s.charAt(p);
            int shapes = sorts.replaceAll("[xf]", "").length();
            boolean short4 = open.startsWith("x") && open.length() < 4 || open.startsWith("f") && open.length() < 3;
            if (short4) {
                int v = c - '0';
                boolean ok;
                if (open.equals("x")) ok = in(v, 0, shapes - 1) && fromOf[v] < 4;
                else if (open.length() == 2 && open.charAt(0) == 'x') ok = in(v, 0, shapes - 1) && c != open.charAt(1);
                else if (open.charAt(0) == 'x') ok = in(v, 1, 5);
                else if (open.equals("f")) ok = in(v, 0, shapes - 1);
                else ok = in(v, 0, 5);
                if (!ok) return p;
                open += c;
                if (open.startsWith("x") && open.length() == 4) fromOf[open.charAt(1) - '0']++;
                continue;
            }
            if (c == ' ') {
                open = "";
            } else if (!open.isEmpty() && LETTERS.indexOf(open.charAt(0)) >= 0 && c >= '0' && c <= '4') {
                if (open.length() > 1 && open.charAt(open.length() - 1) >= c) return p;
                open += c;
            } else {
                boolean ok;
                long x = sorts.chars().filter(q -> q == 'x').count();
                long f = sorts.chars().filter(q -> q == 'f').count();
                if (LETTERS.indexOf(c) >= 0) ok = x == 0 && f == 0 && shapes < 5;
                else if (c == 'x') ok = shapes > 0 && f == 0 && x < 12;
                else if (c == 'f') ok = shapes > 0 && f < 2;
                else ok = false;
                if (!ok) return p;
                sorts += c;
                open = "" + c;
            }
        }
        boolean cut = open.startsWith("x") || open.startsWith("f") && open.length() < 3;
        return !cut && sorts.endsWith("ff") ? NONE : s.length();
    }

    public int night(int t) {
        if (!in(t, 0, 3)) return BAD;
        if (!texts.containsKey(t)) return find(1);
        String s = signs(t);
        if (faultOf(s) != NONE) return STATE;
        kinds = "";
        told.clear();
        changes.clear();
        kept.clear();
        night = new Night();
        String[] items = s.replaceAll("([a-z])", " $1").trim().split(" +");
        for (String item : items) {
            char c = item.charAt(0);
            if (c != 'x' && c != 'f') {
                for (char q : item.substring(1).toCharArray()) told.add(List.of(kinds.length(), q - '0'));
                kinds += c;
            } else if (c == 'x') {
                changes.add(new Change(item.charAt(1) - '0', item.charAt(2) - '0', item.charAt(3) - '0'));
            } else {
                int shape = item.charAt(1) - '0';
                night.now.add(new Who(shape, item.charAt(2) - '0', Set.of(shape)));
            }
        }
        told.removeIf(p -> p.get(1) >= kinds.length() || p.get(0).equals(p.get(1)));
        for (int w = 0; w < 2; w++) {
            Set<Integer> all = new TreeSet<>();
            for (int k = 0; k < changes.size(); k++) all.add(k);
            night.knows.add(all);
        }
        return kinds.length();
    }

    private boolean is(int i, String letters) {
        return letters.indexOf(kinds.charAt(i)) >= 0;
    }

    private boolean beats(int i, int j) {
        return told.contains(List.of(i, j)) && !(is(i, "a") && is(j, "m"));
    }

    private static int bits(Iterable<Integer> set) {
        int b = 0;
        for (int v : set) b |= 1 << v;
        return b;
    }

    private int shapeTells(int i, int what) {
        if (what == 0) return LETTERS.indexOf(kinds.charAt(i));
        Set<Integer> set = new TreeSet<>();
        for (int j = 0; j < kinds.length(); j++) {
            if (what == 1 && beats(i, j) || what == 2 && beats(j, i)) set.add(j);
        }
        return what < 3 ? bits(set) : (int) changes.stream().filter(c -> c.into() == i).count();
    }

    public int shape(int i, int what) {
        if (!in(i, 0, kinds.length() - 1) || !in(what, 0, 3)) return BAD;
        asked = shapeTells(i, what);
        return 1;
    }

    private int changeTells(int k, int what) {
        Change c = changes.get(k);
        int who = 0;
        for (int w = 0; w < 2; w++) who += night.knows.get(w).contains(k) ? 1 + w : 0;
        return new int[] {c.from(), c.into(), c.cost(), who}[what];
    }

    public int change(int k, int what) {
        if (!in(k, 0, changes.size() - 1) || !in(what, 0, 3)) return BAD;
        asked = changeTells(k, what);
        return 1;
    }

    public int mark(int i, int kind) {
        if (!in(i, 0, kinds.length() - 1) || !in(kind, 1, 5)) return BAD;
        if (!is(i, List.of("", "gm", "bw", "a", "w", "m").get(kind))) return find(3);
        if (kind == 1) return changes.stream().filter(c -> c.into() == i).mapToInt(Change::cost).min().orElse(NONE);
        if (kind == 2) {
            int who = 0;
            for (int w = 0; w < 2; w++) who += night.now.get(w).used().contains(i) ? 1 + w : 0;
            return who;
        }
        if (kind == 3) return (int) changes.stream().filter(c -> c.from() == i).count();
        int many = 0;
        for (int j = 0; j < kinds.length(); j++) {
            if (kind == 4 && beats(j, i) || kind == 5 && is(j, "a") && told.contains(List.of(j, i))) many++;
        }
        return many;
    }

    private int fighterTells(int w, int what) {
        Who who = night.now.get(w);
        return new int[] {who.shape(), who.fire(), bits(who.used()), bits(night.knows.get(w))}[what];
    }

    public int fighter(int w, int what) {
        if (night == null || !in(w, 0, 1) || !in(what, 0, 3)) return BAD;
        asked = fighterTells(w, what);
        return 1;
    }

    public int teach(int w, int k, int is) {
        if (night == null || !in(w, 0, 1) || !in(k, 0, changes.size() - 1) || !in(is, 0, 1)) return BAD;
        Set<Integer> knows = night.knows.get(w);
        int was = knows.contains(k) ? 1 : 0;
        if (is == 1) knows.add(k);
        else knows.remove(k);
        return was;
    }

    private static Who withFire(Who w, int fire) {
        return new Who(w.shape(), fire, w.used());
    }

    public int fire(int w, int v) {
        if (night == null || !in(w, 0, 1) || !in(v, 0, 5)) return BAD;
        int was = night.now.get(w).fire();
        night.now.set(w, withFire(night.now.get(w), v));
        return was;
    }

    public int beat(int i, int j, int is) {
        int n = kinds.length();
        if (!in(i, 0, n - 1) || !in(j, 0, n - 1) || i == j || !in(is, 0, 1)) return BAD;
        int was = told.contains(List.of(i, j)) ? 1 : 0;
        if (is == 1) told.add(List.of(i, j));
        else told.remove(List.of(i, j));
        return was;
    }

    // ---- 2

    private int price(Change c, Who other) {
        int takes = c.cost();
        if (is(c.into(), "gm")) takes--;
        if (is(c.from(), "a")) takes++;
        if (is(other.shape(), "w")) takes++;
        return takes < 1 ? 1 : takes;
    }

    private List<Integer> options(List<Who> both, int w) {
        List<Integer> can = new ArrayList<>();
        Who me = both.get(w);
        Who other = both.get(1 - w);
        for (int k = 0; k < changes.size(); k++) {
            Change c = changes.get(k);
            if (!night.knows.get(w).contains(k) || c.from() != me.shape()) continue;
            if (me.used().contains(c.into()) && !is(c.into(), "bw")) continue;
            if (!beats(c.into(), other.shape()) || price(c, other) > me.fire()) continue;
            can.add(k);
        }
        return can;
    }

    private List<Who> behind(List<Who> both, int w, int k) {
        Change c = changes.get(k);
        Set<Integer> used = new TreeSet<>(both.get(w).used());
        used.add(c.into());
        Who me = new Who(c.into(), both.get(w).fire() - price(c, both.get(1 - w)), used);
        return w == 0 ? List.of(me, both.get(1)) : List.of(both.get(0), me);
    }

    private int mover() {
        return night.done.size() % 2;
    }

    public int can(int w) {
        if (night == null || !in(w, 0, 1)) return BAD;
        return bits(options(night.now, w));
    }

    public int turn() {
        if (night == null) return STATE;
        asked = options(night.now, mover()).isEmpty() ? 1 : 0;
        return mover();
    }

    private void act(int k) {
        night.ahead.add(new ArrayList<>(night.now));
        night.now = new ArrayList<>(behind(night.now, mover(), k));
        night.done.add(k);
    }

    public int go(int k) {
        if (!in(k, 0, changes.size() - 1)) return BAD;
        if (!options(night.now, mover()).contains(k)) return STATE;
        if (night.done.size() == 40) return FULL;
        int takes = price(changes.get(k), night.now.get(1 - mover()));
        act(k);
        return takes;
    }

    private int doneSize() {
        return night == null ? 0 : night.done.size();
    }

    public int undo(int n) {
        if (!in(n, 0, doneSize())) return BAD;
        int many = 0;
        while (doneSize() > n) {
            many++;
            night.done.remove(doneSize() - 1);
            night.now = new ArrayList<>(night.ahead.remove(night.ahead.size() - 1));
        }
        return many;
    }

    private static int[] ints(List<Integer> list) {
        return list.stream().mapToInt(v -> v).toArray();
    }

    public int told(int r) {
        if (!in(r, 0, 5)) return BAD;
        rows.put(r, night == null ? new int[0] : ints(night.done));
        return doneSize();
    }

    public int keep(int k) {
        if (!in(k, 0, 2)) return BAD;
        if (night == null) return STATE;
        kept.put(k, night.twin());
        return doneSize();
    }

    public int on(int k) {
        if (!in(k, 0, 2)) return BAD;
        if (!kept.containsKey(k)) return find(1);
        night = kept.get(k).twin();
        return doneSize();
    }

    // ---- 3

    private boolean moverWins(List<Who> both, int w) {
        for (int k : options(both, w)) {
            if (!moverWins(behind(both, w, k), 1 - w)) return true;
        }
        return false;
    }

    /** The row that good play makes, the first of those. */
    private List<Integer> play(List<Who> both, int w) {
        List<Integer> best = null;
        boolean wins = moverWins(both, w);
        for (int k : options(both, w)) {
            List<Who> next = behind(both, w, k);
            if (wins && moverWins(next, 1 - w)) continue;
            List<Integer> row = new ArrayList<>();
            row.add(k);
            row.addAll(play(next, 1 - w));
            if (best == null || wins && row.size() < best.size() || !wins && row.size() > best.size()) best = row;
        }
        return best == null ? List.of() : best;
    }

    public int wins() {
        if (night == null) return STATE;
        asked = NONE;
        for (int k : options(night.now, mover())) {
            if (asked == NONE && !moverWins(behind(night.now, mover(), k), 1 - mover())) asked = k;
        }
        return asked == NONE ? 0 : 1;
    }

    public int ends() {
        if (night == null) return STATE;
        int n = play(night.now, mover()).size();
        asked = (mover() + n) % 2;
        return n;
    }

    public int line(int r) {
        if (!in(r, 0, 5)) return BAD;
        if (night == null) return STATE;
        rows.put(r, ints(play(night.now, mover())));
        return rows.get(r).length;
    }

    private boolean wonBy(int w) {
        return moverWins(night.now, mover()) == (w == mover());
    }

    public int least(int w) {
        if (night == null || !in(w, 0, 1)) return BAD;
        Who was = night.now.get(w);
        int least = NONE;
        for (int v = 5; v >= 0; v--) {
            night.now.set(w, withFire(was, v));
            if (wonBy(w)) least = v;
        }
        night.now.set(w, was);
        return least;
    }

    public int learn(int w) {
        if (night == null || !in(w, 0, 1)) return BAD;
        if (wonBy(w)) return NONE;
        int which = NONE;
        for (int k = changes.size() - 1; k >= 0; k--) {
            if (night.knows.get(w).add(k)) {
                if (wonBy(w)) which = k;
                night.knows.get(w).remove(k);
            }
        }
        return which;
    }

    public int needs(int w) {
        if (night == null || !in(w, 0, 1)) return BAD;
        if (!wonBy(w)) return 0;
        Set<Integer> needed = new TreeSet<>();
        for (int k = 0; k < changes.size(); k++) {
            if (night.knows.get(w).remove(k)) {
                if (!wonBy(w)) needed.add(k);
                night.knows.get(w).add(k);
            }
        }
        return bits(needed);
    }

    public int lines(int n) {
        if (!in(n, 0, 6)) return BAD;
        if (night == null) return STATE;
        List<List<Who>> here = List.of(night.now);
        for (int i = 0; i < n; i++) {
            List<List<Who>> next = new ArrayList<>();
            int w = (mover() + i) % 2;
            for (List<Who> both : here) {
                for (int k : options(both, w)) next.add(behind(both, w, k));
            }
            here = next;
        }
        int w = (mover() + n) % 2;
        asked = (int) here.stream().filter(both -> options(both, w).isEmpty()).count();
        return here.size();
    }

    // ---- 4

    private int refuse(int r, int most, int end) {
        if (night == null) return STATE;
        if (!rows.containsKey(r)) return find(1);
        if (rows.get(r).length > most) return find(5);
        for (int v : rows.get(r)) {
            if (!in(v, 0, end - 1)) return find(3);
        }
        return 0;
    }

    public int judge(int r) {
        if (!in(r, 0, 5)) return BAD;
        int no = refuse(r, 12, changes.size());
        if (no != 0) return no;
        List<Who> both = night.now;
        int w = mover();
        int could = 0;
        for (int k : rows.get(r)) {
            if (!options(both, w).contains(k)) break;
            both = behind(both, w, k);
            w = 1 - w;
            could++;
        }
        asked = options(both, w).isEmpty() ? w : NONE;
        return could;
    }

    private void ways(List<Who> both, int w, int[] shapes, List<Integer> row, List<List<Integer>> all) {
        if (row.size() == shapes.length) {
            all.add(new ArrayList<>(row));
            return;
        }
        for (int k : options(both, w)) {
            if (changes.get(k).into() == shapes[row.size()]) {
                row.add(k);
                ways(behind(both, w, k), 1 - w, shapes, row, all);
                row.remove(row.size() - 1);
            }
        }
    }

    public int shown(int r, int to) {
        if (!in(r, 0, 5) || !in(to, 0, 5)) return BAD;
        int no = refuse(r, 8, kinds.length());
        if (no != 0) return no;
        List<List<Integer>> all = new ArrayList<>();
        ways(night.now, mover(), rows.get(r), new ArrayList<>(), all);
        if (!all.isEmpty()) rows.put(to, ints(all.get(0)));
        return all.size();
    }

    public int must(int w, int r) {
        if (!in(w, 0, 1) || !in(r, 0, 5)) return BAD;
        int no = refuse(r, 8, kinds.length());
        if (no != 0) return no;
        List<List<Integer>> all = new ArrayList<>();
        ways(night.now, mover(), rows.get(r), new ArrayList<>(), all);
        int inAll = all.isEmpty() ? 0 : -1;
        for (List<Integer> row : all) {
            Set<Integer> own = new TreeSet<>();
            for (int i = 0; i < row.size(); i++) {
                if ((mover() + i) % 2 == w) own.add(row.get(i));
            }
            inAll &= bits(own);
        }
        return inAll;
    }

    // ---- 5

    private Chance chanceOf(List<Who> both, int w, int chooser) {
        List<Integer> can = options(both, w);
        if (can.isEmpty()) return Chance.ZERO;
        Chance best = Chance.ZERO;
        Chance sum = Chance.ZERO;
        for (int k : can) {
            Chance c = chanceOf(behind(both, w, k), 1 - w, chooser).other();
            if (c.above(best)) best = c;
            sum = sum.plus(c);
        }
        return w == chooser ? best : sum.over(can.size());
    }

    public int odds() {
        if (night == null) return STATE;
        chance = chanceOf(night.now, mover(), NONE).reduced();
        return 1;
    }

    public int hopes() {
        if (night == null) return STATE;
        chance = chanceOf(night.now, mover(), mover()).reduced();
        asked = NONE;
        for (int k : options(night.now, mover())) {
            Chance c = chanceOf(behind(night.now, mover(), k), 1 - mover(), mover()).other().reduced();
            if (asked == NONE && c.equals(chance)) asked = k;
        }
        return 1;
    }

    public int lots(int n, int seed) {
        if (!in(n, 1, 20) || !in(seed, 1, 2147483646)) return BAD;
        if (night == null) return STATE;
        if (doneSize() + n > 40) return FULL;
        BigInteger number = BigInteger.valueOf(seed);
        for (int i = 0; i < n; i++) {
            List<Integer> can = options(night.now, mover());
            if (can.isEmpty()) return i;
            number = number.multiply(BigInteger.valueOf(48271)).mod(BigInteger.valueOf(2147483647));
            act(can.get(number.mod(BigInteger.valueOf(can.size())).intValue()));
        }
        return n;
    }

    // ---- 6

    public int rings() {
        int many = 0;
        Set<Integer> outside = new TreeSet<>();
        int n = kinds.length();
        for (int x = 0; x < n; x++) {
            boolean inOne = false;
            for (int y = 0; y < n; y++) {
                for (int z = 0; z < n; z++) {
                    if (beats(x, y) && beats(y, z) && beats(z, x)) {
                        inOne = true;
                        if (x < y && x < z) many++;
                    }
                }
            }
            if (!inOne) outside.add(x);
        }
        asked = bits(outside);
        return many;
    }

    public int cover() {
        int n = kinds.length();
        for (int size = 0; size <= n; size++) {
            for (int set = 0; set < 1 << n; set++) {
                if (Integer.bitCount(set) == size && covers(set)) {
                    asked = set;
                    return size;
                }
            }
        }
        throw new IllegalStateException("all of them cover");
    }

    private boolean covers(int set) {
        for (int j = 0; j < kinds.length(); j++) {
            if (shapeTells(j, 2) != 0 && (shapeTells(j, 2) & set) == 0) return false;
        }
        return true;
    }

    public int alike() {
        List<List<Integer>> orders = new ArrayList<>();
        orders(new ArrayList<>(), orders);
        int many = 0;
        Set<Integer> moved = new TreeSet<>();
        for (List<Integer> p : orders) {
            boolean same = true;
            for (int i = 0; i < p.size(); i++) {
                for (int j = 0; j < p.size(); j++) same &= beats(i, j) == beats(p.get(i), p.get(j));
            }
            if (!same) continue;
            many++;
            for (int i = 0; i < p.size(); i++) {
                if (p.get(i) != i) moved.add(p.get(i));
            }
        }
        asked = bits(moved);
        return many;
    }

    private void orders(List<Integer> begun, List<List<Integer>> all) {
        if (begun.size() == kinds.length()) all.add(new ArrayList<>(begun));
        for (int i = 0; i < kinds.length(); i++) {
            if (!begun.contains(i)) {
                begun.add(i);
                orders(begun, all);
                begun.remove(begun.size() - 1);
            }
        }
    }

    public int best() {
        int which = NONE;
        int most = Integer.MIN_VALUE;
        for (int i = 0; i < kinds.length(); i++) {
            int lead = Integer.bitCount(shapeTells(i, 1)) - Integer.bitCount(shapeTells(i, 2));
            if (lead > most) {
                most = lead;
                which = i;
            }
        }
        if (which != NONE) asked = most;
        return which;
    }

    // ---- 7

    public int asked() {
        return asked;
    }

    public long upper() {
        return chance.upper().longValueExact();
    }

    public long lower() {
        return chance.lower().longValueExact();
    }

    public int count(int what) {
        if (!in(what, 0, 8)) return BAD;
        int fire = night == null ? 0 : night.now.get(0).fire() + night.now.get(1).fire();
        int grains = kinds.replaceAll("[^gm]", "").length();
        int bees = kinds.replaceAll("[^bw]", "").length();
        return new int[] {kinds.length(), changes.size(), doneSize(), grains, bees, fire,
            rows.size(), texts.size(), kept.size()}[what];
    }

    public int finding() {
        return latest;
    }

    public int findings(int f) {
        return in(f, 1, 5) ? found[f] : BAD;
    }

    public long digest() {
        List<Integer> all = new ArrayList<>();
        for (int what = 0; what <= 8; what++) all.add(count(what));
        for (int i = 0; i < kinds.length(); i++) {
            for (int what = 0; what <= 3; what++) all.add(shapeTells(i, what));
        }
        for (int k = 0; k < changes.size(); k++) {
            for (int what = 0; what <= 3; what++) all.add(changeTells(k, what));
        }
        if (night != null) {
            for (int w = 0; w < 2; w++) {
                for (int what = 0; what <= 3; what++) all.add(fighterTells(w, what));
            }
            all.addAll(night.done);
        }
        for (int k = 0; k < 3; k++) all.add(kept.containsKey(k) ? kept.get(k).done.size() : -1);
        for (int r = 0; r < 6; r++) {
            all.add(rows.containsKey(r) ? rows.get(r).length : -1);
            for (int v : rows.getOrDefault(r, new int[0])) all.add(v);
        }
        for (int t = 0; t < 4; t++) {
            all.add(texts.containsKey(t) ? texts.get(t).length : -1);
            for (byte v : texts.getOrDefault(t, new byte[0])) all.add((int) v);
        }
        long h = 17;
        for (int v : all) h = 31 * h + v;
        return h;
    }
}
