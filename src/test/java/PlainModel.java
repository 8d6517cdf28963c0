import java.math.BigInteger;
import java.util.ArrayDeque;
import java.util.ArrayList;
import java.util.Collections;
import java.util.Deque;
import java.util.HashMap;
import java.util.HashSet;
import java.util.List;
import java.util.Map;
import java.util.Set;
import java.util.TreeSet;
import java.util.function.Function;
import java.util.regex.Matcher;
import java.util.regex.Pattern;

/**
 * The document in another, slower form: big fractions, elimination by rows and immutable worlds. It shares no code with
 * PileShares, so that a slip of the one is not a slip of the other.
 */
final class PlainModel {
    private static final int BAD = -1, STATE = -2, FULL = -3, NONE = -9;
    private static final long NO = -1000000000000000000L, NOT = -2000000000000000000L;

    record Ratio(BigInteger top, BigInteger bottom) implements Comparable<Ratio> {
        static final Ratio ZERO = of(0);

        static Ratio of(long n) {
            return new Ratio(BigInteger.valueOf(n), BigInteger.ONE);
        }

        static Ratio of(BigInteger top, BigInteger bottom) {
            BigInteger g = top.gcd(bottom);
            if (bottom.signum() < 0) {
                g = g.negate();
            }
            return new Ratio(top.divide(g), bottom.divide(g));
        }

        Ratio plus(Ratio o) {
            return of(top.multiply(o.bottom).add(o.top.multiply(bottom)), bottom.multiply(o.bottom));
        }

        Ratio minus(Ratio o) {
            return plus(of(o.top.negate(), o.bottom));
        }

        Ratio times(Ratio o) {
            return of(top.multiply(o.top), bottom.multiply(o.bottom));
        }

        Ratio over(Ratio o) {
            return of(top.multiply(o.bottom), bottom.multiply(o.top));
        }

        int sign() {
            return top.signum();
        }

        long down() {
            BigInteger[] parts = top.divideAndRemainder(bottom);
            return parts[0].longValueExact() - (parts[1].signum() < 0 ? 1 : 0);
        }

        long part(int what) {
            return (what == 0 ? top : bottom).longValueExact();
        }

        @Override
        public int compareTo(Ratio o) {
            return top.multiply(o.bottom).compareTo(o.top.multiply(bottom));
        }
    }

    record Pile(int x, int y, int stiff, int can, boolean intact) { }

    record Column(int x, int y, int load) { }

    record Load(long w, long u, long v) { }

    record World(List<Pile> piles, List<Column> columns, int mx, int my) {
        Load load() {
            long w = 0;
            long u = mx;
            long v = my;
            for (Column c : columns) {
                w += c.load;
                u += (long) c.load * c.x;
                v += (long) c.load * c.y;
            }
            return new Load(w, u, v);
        }

        Set<Integer> intact() {
            Set<Integer> set = new TreeSet<>();
            for (int p = 0; p < piles.size(); p++) {
                if (piles.get(p).intact) {
                    set.add(p);
                }
            }
            return set;
        }

        boolean pileAt(int x, int y) {
            return piles.stream().anyMatch(q -> q.x == x && q.y == y);
        }
    }

    record Result(boolean settled, int rounds, Set<Integer> set, Set<Integer> active, Ratio[] plane, List<Pile> piles) {
        Ratio share(int p) {
            return active.contains(p) ? shareOf(plane, piles.get(p)) : Ratio.ZERO;
        }

        int mostUsed() {
            int best = -1;
            for (int p : set) {
                if (best < 0 || use(p).compareTo(use(best)) > 0) {
                    best = p;
                }
            }
            return best;
        }

        Ratio use(int p) {
            return share(p).over(Ratio.of(piles.get(p).can));
        }
    }

    private final StringBuilder text = new StringBuilder();
    private World now = new World(List.of(), List.of(), 0, 0);
    private final Deque<World> past = new ArrayDeque<>();
    private final Map<Integer, World> images = new HashMap<>();
    private int h = 10;
    private final List<int[]> sights = new ArrayList<>();

    // ---- statics

    static Ratio pressure(Ratio[] plane, int x, int y) {
        return plane[0].plus(plane[1].times(Ratio.of(x))).plus(plane[2].times(Ratio.of(y)));
    }

    static Ratio shareOf(Ratio[] plane, Pile p) {
        return Ratio.of(p.stiff).times(pressure(plane, p.x, p.y));
    }

    /** Three equations, solved by elimination; null if they have not exactly one solution. */
    static Ratio[] planeOf(List<Pile> piles, Set<Integer> active, Load load) {
        Ratio[][] m = new Ratio[3][4];
        long[] right = {load.w, load.u, load.v};
        for (int i = 0; i < 3; i++) {
            for (int j = 0; j < 3; j++) {
                long sum = 0;
                for (int p : active) {
                    Pile q = piles.get(p);
                    int[] arm = {1, q.x, q.y};
                    sum += (long) q.stiff * arm[i] * arm[j];
                }
                m[i][j] = Ratio.of(sum);
            }
            m[i][3] = Ratio.of(right[i]);
        }
        for (int col = 0; col < 3; col++) {
            int pivot = col;
            while (pivot < 3 && m[pivot][col].sign() == 0) {
                pivot++;
            }
            if (pivot == 3) {
                return null;
            }
            Ratio[] swap = m[col];
            m[col] = m[pivot];
            m[pivot] = swap;
            for (int row = 0; row < 3; row++) {
                if (row != col) {
                    Ratio times = m[row][col].over(m[col][col]);
                    for (int j = col; j < 4; j++) {
                        m[row][j] = m[row][j].minus(times.times(m[col][j]));
                    }
                }
            }
        }
        return new Ratio[] {m[0][3].over(m[0][0]), m[1][3].over(m[1][1]), m[2][3].over(m[2][2])};
    }

    static Result distribute(List<Pile> piles, Set<Integer> set, Load load) {
        Set<Integer> active = new TreeSet<>(set);
        for (int round = 1; round <= 40; round++) {
            Ratio[] plane = planeOf(piles, active, load);
            if (plane == null) {
                return new Result(false, round, set, active, null, piles);
            }
            int release = -1;
            for (int p : active) {
                Ratio share = shareOf(plane, piles.get(p));
                if (share.sign() < 0
                        && (release < 0 || share.compareTo(shareOf(plane, piles.get(release))) < 0)) {
                    release = p;
                }
            }
            if (release >= 0) {
                active.remove(release);
                continue;
            }
            int regain = -1;
            Ratio greatest = Ratio.ZERO;
            for (int p : set) {
                Ratio here = pressure(plane, piles.get(p).x, piles.get(p).y);
                if (!active.contains(p) && here.compareTo(greatest) > 0) {
                    regain = p;
                    greatest = here;
                }
            }
            if (regain < 0) {
                return new Result(true, round, set, active, plane, piles);
            }
            active.add(regain);
        }
        return new Result(false, 40, set, active, null, piles);
    }

    private Result present() {
        return distribute(now.piles, now.intact(), now.load());
    }

    // ---- what is told

    int type(int letter) {
        if (letter < 0 || letter > 255) {
            return BAD;
        }
        if (text.length() == 160) {
            return FULL;
        }
        text.append((char) letter);
        return text.length();
    }

    int clear() {
        int length = text.length();
        text.setLength(0);
        return length;
    }

    private record Token(int at, String word) { }

    private static final Map<String, int[][]> FORMS = Map.of(
            "p", new int[][] {{0, 18}, {0, 18}, {1, 9}, {1, 99}},
            "c", new int[][] {{0, 18}, {0, 18}, {0, 99}},
            "w", new int[][] {{0, 198}, {0, 198}});

    int tells() {
        List<Token> tokens = new ArrayList<>();
        Matcher matcher = Pattern.compile("[0-9]+|[^ ]", Pattern.DOTALL).matcher(text);
        while (matcher.find()) {
            tokens.add(new Token(matcher.start(), matcher.group()));
        }
        List<Pile> piles = new ArrayList<>();
        List<Column> columns = new ArrayList<>();
        int[] wind = null;
        int items = 0;
        int next = 0;
        while (next < tokens.size()) {
            Token head = tokens.get(next);
            int[][] form = FORMS.get(head.word);
            boolean tooMany = head.word.equals("p") && piles.size() == 8
                    || head.word.equals("c") && columns.size() == 5
                    || head.word.equals("w") && wind != null;
            if (form == null || tooMany) {
                return -10 - head.at;
            }
            int[] n = new int[form.length];
            for (int i = 0; i <= form.length; i++) {
                next++;
                if (next == tokens.size()) {
                    return -10 - text.length();
                }
                Token token = tokens.get(next);
                boolean fits;
                if (i == form.length) {
                    fits = token.word.equals(";");
                } else {
                    fits = token.word.matches("0|[1-9][0-9]{0,2}");
                    if (fits) {
                        n[i] = Integer.parseInt(token.word);
                        fits = n[i] >= form[i][0] && n[i] <= form[i][1];
                    }
                    if (fits && head.word.equals("p") && i == 1) {
                        fits = piles.stream().noneMatch(q -> q.x == n[0] - 9 && q.y == n[1] - 9);
                    }
                }
                if (!fits) {
                    return -10 - token.at;
                }
            }
            next++;
            items++;
            switch (head.word) {
                case "p" -> piles.add(new Pile(n[0] - 9, n[1] - 9, n[2], n[3], true));
                case "c" -> columns.add(new Column(n[0] - 9, n[1] - 9, n[2]));
                default -> wind = n;
            }
        }
        now = new World(piles, columns, wind == null ? 0 : wind[0] - 99, wind == null ? 0 : wind[1] - 99);
        text.setLength(0);
        past.clear();
        images.clear();
        sights.clear();
        h = 10;
        return items;
    }

    // ---- what is done

    private void act(World next) {
        past.addLast(now);
        if (past.size() > 6) {
            past.removeFirst();
        }
        now = next;
    }

    private static boolean within(int n, int least, int greatest) {
        return n >= least && n <= greatest;
    }

    private static boolean place(int x, int y) {
        return within(x, -9, 9) && within(y, -9, 9);
    }

    private boolean noPile(int p) {
        return p < 0 || p >= now.piles.size();
    }

    private boolean noColumn(int c) {
        return c < 0 || c >= now.columns.size();
    }

    int drives(int x, int y, int stiff, int can) {
        if (!place(x, y) || !within(stiff, 1, 9) || !within(can, 1, 99)) {
            return BAD;
        }
        if (now.pileAt(x, y)) {
            return STATE;
        }
        if (now.piles.size() == 8) {
            return FULL;
        }
        List<Pile> piles = new ArrayList<>(now.piles);
        piles.add(new Pile(x, y, stiff, can, true));
        act(new World(piles, now.columns, now.mx, now.my));
        return piles.size() - 1;
    }

    private int setIntact(int p, boolean intact) {
        if (noPile(p)) {
            return BAD;
        }
        Pile q = now.piles.get(p);
        if (q.intact == intact) {
            return STATE;
        }
        List<Pile> piles = new ArrayList<>(now.piles);
        piles.set(p, new Pile(q.x, q.y, q.stiff, q.can, intact));
        act(new World(piles, now.columns, now.mx, now.my));
        return now.intact().size();
    }

    int loses(int p) {
        return setIntact(p, false);
    }

    int mends(int p) {
        return setIntact(p, true);
    }

    private void setColumn(int c, Column column) {
        List<Column> columns = new ArrayList<>(now.columns);
        columns.set(c, column);
        act(new World(now.piles, columns, now.mx, now.my));
    }

    int loads(int c, int load) {
        if (noColumn(c) || !within(load, 0, 99)) {
            return BAD;
        }
        Column old = now.columns.get(c);
        if (old.load == load) {
            return STATE;
        }
        setColumn(c, new Column(old.x, old.y, load));
        return old.load;
    }

    int moves(int c, int x, int y) {
        if (noColumn(c) || !place(x, y)) {
            return BAD;
        }
        Column old = now.columns.get(c);
        if (old.x == x && old.y == y) {
            return STATE;
        }
        setColumn(c, new Column(x, y, old.load));
        return 1;
    }

    int winds(int mx, int my) {
        if (!within(mx, -99, 99) || !within(my, -99, 99)) {
            return BAD;
        }
        if (now.mx == mx && now.my == my) {
            return STATE;
        }
        act(new World(now.piles, now.columns, mx, my));
        return 1;
    }

    int undo() {
        if (past.isEmpty()) {
            return STATE;
        }
        now = past.removeLast();
        return past.size();
    }

    // ---- as it stands

    long pile(int p, int what) {
        if (noPile(p) || !within(what, 0, 5)) {
            return NO;
        }
        Pile q = now.piles.get(p);
        if (what == 5) {
            Result r = present();
            return !r.settled ? NONE : r.active.contains(p) ? 1 : 0;
        }
        return new int[] {q.x, q.y, q.stiff, q.can, q.intact ? 1 : 0}[what];
    }

    long column(int c, int what) {
        if (noColumn(c) || !within(what, 0, 2)) {
            return NO;
        }
        Column q = now.columns.get(c);
        return new int[] {q.x, q.y, q.load}[what];
    }

    long sum(int what) {
        Load load = now.load();
        return within(what, 0, 4) ? new long[] {load.w, load.u, load.v, now.mx, now.my}[what] : NO;
    }

    int sharing(int what) {
        if (!within(what, 0, 2)) {
            return BAD;
        }
        Result r = present();
        if (what == 0) {
            return r.rounds;
        }
        if (what == 1) {
            return r.settled ? 1 : 0;
        }
        if (!r.settled) {
            return NONE;
        }
        int mask = 0;
        for (int p : r.set) {
            if (!r.active.contains(p)) {
                mask += 1 << p;
            }
        }
        return mask;
    }

    long share(int p, int what) {
        if (noPile(p) || !within(what, 0, 2)) {
            return NO;
        }
        Result r = present();
        if (!r.settled) {
            return NOT;
        }
        return what == 2 ? r.share(p).down() : r.share(p).part(what);
    }

    long press(int x, int y, int what) {
        if (!place(x, y) || !within(what, 0, 1)) {
            return NO;
        }
        Result r = present();
        return r.settled ? pressure(r.plane, x, y).part(what) : NOT;
    }

    private static long use(Result r, int what) {
        if (!r.settled) {
            return NONE;
        }
        return what == 2 ? r.mostUsed() : r.use(r.mostUsed()).part(what);
    }

    long most(int what) {
        return within(what, 0, 2) ? use(present(), what) : BAD;
    }

    long factor(int what) {
        if (!within(what, 0, 1)) {
            return BAD;
        }
        Result r = present();
        if (!r.settled || r.use(r.mostUsed()).sign() == 0) {
            return NONE;
        }
        return Ratio.of(1).over(r.use(r.mostUsed())).part(what);
    }

    // ---- what would be

    int kern(int x, int y) {
        if (!place(x, y)) {
            return BAD;
        }
        Ratio[] plane = planeOf(now.piles, now.intact(), new Load(1, x, y));
        if (plane == null) {
            return NONE;
        }
        return now.intact().stream().allMatch(p -> shareOf(plane, now.piles.get(p)).sign() >= 0) ? 1 : 0;
    }

    int kerns(int what) {
        if (!within(what, 0, 1)) {
            return BAD;
        }
        if (kern(0, 0) == NONE) {
            return NONE;
        }
        List<Integer> places = new ArrayList<>();
        for (int x = -9; x <= 9; x++) {
            for (int y = -9; y <= 9; y++) {
                if (kern(x, y) == 1) {
                    places.add(19 * (x + 9) + y + 9);
                }
            }
        }
        return what == 0 ? places.size() : places.isEmpty() ? NONE : places.get(0);
    }

    private Result lacking(int p) {
        Set<Integer> rest = now.intact();
        rest.remove(p);
        return distribute(now.piles, rest, now.load());
    }

    long without(int p, int what) {
        if (noPile(p) || !within(what, 0, 2)) {
            return BAD;
        }
        return now.piles.get(p).intact ? use(lacking(p), what) : STATE;
    }

    int key() {
        int key = NONE;
        Ratio greatest = null;
        for (int p : now.intact()) {
            Result r = lacking(p);
            if (!r.settled) {
                return p;
            }
            Ratio use = r.use(r.mostUsed());
            if (greatest == null || use.compareTo(greatest) > 0) {
                greatest = use;
                key = p;
            }
        }
        return key;
    }

    int extra(int stiff, int can) {
        if (!within(stiff, 1, 9) || !within(can, 1, 99)) {
            return BAD;
        }
        int best = NONE;
        Ratio least = null;
        for (int x = -9; x <= 9; x++) {
            for (int y = -9; y <= 9; y++) {
                if (now.pileAt(x, y)) {
                    continue;
                }
                List<Pile> piles = new ArrayList<>(now.piles);
                piles.add(new Pile(x, y, stiff, can, true));
                Set<Integer> set = now.intact();
                set.add(piles.size() - 1);
                Result r = distribute(piles, set, now.load());
                if (r.settled && (least == null || r.use(r.mostUsed()).compareTo(least) < 0)) {
                    least = r.use(r.mostUsed());
                    best = 19 * (x + 9) + y + 9;
                }
            }
        }
        return best;
    }

    int odds(int x, int what) {
        if (!within(x, 0, 10) || !within(what, 0, 1)) {
            return BAD;
        }
        Ratio lost = Ratio.of(x).over(Ratio.of(10));
        Ratio sum = chance(new ArrayList<>(now.intact()), new HashSet<>(), Ratio.of(1), lost);
        return (int) sum.part(what);
    }

    private Ratio chance(List<Integer> open, Set<Integer> remaining, Ratio weight, Ratio lost) {
        if (open.isEmpty()) {
            Result r = distribute(now.piles, remaining, now.load());
            boolean stands = r.settled && r.use(r.mostUsed()).compareTo(Ratio.of(1)) <= 0;
            return stands ? weight : Ratio.ZERO;
        }
        List<Integer> rest = open.subList(1, open.size());
        Set<Integer> more = new HashSet<>(remaining);
        more.add(open.get(0));
        return chance(rest, remaining, weight.times(lost), lost)
                .plus(chance(rest, more, weight.times(Ratio.of(1).minus(lost)), lost));
    }

    // ---- where it stands

    int hunts(int load) {
        if (!within(load, 1, 99)) {
            return BAD;
        }
        h = load;
        return forget();
    }

    int sees(int p, int v) {
        if (noPile(p) || !within(v, 0, 999)) {
            return BAD;
        }
        if (sights.size() == 6) {
            return FULL;
        }
        sights.add(new int[] {p, v});
        return sights.size();
    }

    int forget() {
        int n = sights.size();
        sights.clear();
        return n;
    }

    private Map<Integer, Result> spotResults() {
        Map<Integer, Result> found = new java.util.TreeMap<>();
        for (int x = -9; x <= 9; x++) {
            for (int y = -9; y <= 9; y++) {
                Result r = distribute(now.piles, now.intact(), new Load(h, (long) h * x, (long) h * y));
                if (r.settled && sights.stream().allMatch(s -> r.share(s[0]).down() == s[1])) {
                    found.put(19 * (x + 9) + y + 9, r);
                }
            }
        }
        return found;
    }

    int spots(int what) {
        if (!within(what, 0, 1)) {
            return BAD;
        }
        Map<Integer, Result> spots = spotResults();
        return what == 0 ? spots.size() : spots.isEmpty() ? NONE : Collections.min(spots.keySet());
    }

    int ask() {
        Map<Integer, Result> spots = spotResults();
        if (spots.size() <= 1) {
            return NONE;
        }
        Function<Integer, Integer> largest = p -> {
            Map<Long, Integer> sizes = new HashMap<>();
            spots.values().forEach(r -> sizes.merge(r.share(p).down(), 1, Integer::sum));
            return Collections.max(sizes.values());
        };
        int best = NONE;
        int size = Integer.MAX_VALUE;
        for (int p : now.intact()) {
            if (largest.apply(p) < size) {
                size = largest.apply(p);
                best = p;
            }
        }
        return best;
    }

    // ---- images

    int keep(int image) {
        if (!within(image, 0, 1)) {
            return BAD;
        }
        images.put(image, now);
        return now.piles.size();
    }

    int back(int image) {
        if (!within(image, 0, 1)) {
            return BAD;
        }
        if (!images.containsKey(image)) {
            return STATE;
        }
        now = images.get(image);
        past.clear();
        return now.piles.size();
    }

    int count(int what) {
        if (!within(what, 0, 6)) {
            return BAD;
        }
        return new int[] {now.piles.size(), now.intact().size(), now.columns.size(), h, sights.size(), text.length(),
            past.size()}[what];
    }
}
