import java.util.ArrayList;
import java.util.Arrays;
import java.util.Collections;
import java.util.HashMap;
import java.util.List;
import java.util.Map;
import java.util.NoSuchElementException;
import java.util.TreeSet;
import java.util.regex.Matcher;
import java.util.regex.Pattern;

/**
 * The document told a second time, as plainly as may be and with no thought of speed: texts by regular expressions,
 * laws worked out from their text, a new state for each trial.
 */
public final class PlainModel {
    private static final int FAR_AWAY = Integer.MAX_VALUE;

    /** What a cup is and how it is set; copied for each trial. */
    private static final class Ways implements Cloneable {
        int cells = 8;
        int rim = 100;
        int fill = 80;
        int stiff = 8;
        int damp = 2;
        int foam = 0;
        int bite = 6;
        int lid = 0;
        int late = 0;
        String law = "";
        Map<Integer, Integer> walls = new HashMap<>();

        Ways copy() {
            try {
                Ways w = (Ways) clone();
                w.walls = new HashMap<>(walls);
                return w;
            } catch (CloneNotSupportedException e) {
                throw new IllegalStateException(e);
            }
        }
    }

    /** THE STATE, what is seen of it, and R. */
    private static final class Now {
        int r = 1;
        int[][] height;
        int[][] flow;
        int[] spilt = new int[2];
        List<Integer> seen = new ArrayList<>();

        Now(Ways ways) {
            height = new int[2][ways.cells];
            flow = new int[2][ways.cells - 1];
            Arrays.fill(height[0], ways.fill);
            Arrays.fill(height[1], ways.fill);
        }

        Now copy(Ways ways) {
            Now n = new Now(ways);
            n.r = r;
            n.spilt = spilt.clone();
            n.seen = new ArrayList<>(seen);
            for (int row = 0; row < 2; row++) {
                n.height[row] = height[row].clone();
                n.flow[row] = flow[row].clone();
            }
            return n;
        }

        int slope(int row) {
            return height[row][0] - height[row][height[row].length - 1];
        }

        int tick(Ways ways, int... push) {
            seen.add(slope(0));
            int sum = 0;
            for (int row = 0; row < 2; row++) {
                int[] h = height[row];
                int[] f = flow[row];
                for (int g = 0; g < f.length; g++) {
                    long grown = f[g] + ways.stiff * (h[g] - h[g + 1]) / 16 + push[row];
                    grown = grown - grown * Math.min(100, ways.damp + ways.foam * ways.bite) / 100;
                    grown = grown * ways.walls.getOrDefault(g, 100) / 100;
                    f[g] = (int) Math.max(-8000, Math.min(8000, grown));
                }
                for (int g = 0; g < f.length; g++) {
                    int from = f[g] >= 0 ? g : g + 1;
                    int to = f[g] >= 0 ? g + 1 : g;
                    int goes = Math.abs(f[g]) / 8;
                    if (goes > h[from]) {
                        goes = h[from];
                        f[g] = f[g] >= 0 ? 8 * goes : -8 * goes;
                    }
                    h[from] -= goes;
                    h[to] += goes;
                }
                for (int end : new int[] {0, h.length - 1}) {
                    if (h[end] > ways.rim) {
                        int above = h[end] - ways.rim;
                        int over = above - above * ways.lid / 100;
                        h[end] -= over;
                        spilt[row] += over;
                        sum += over;
                    }
                }
            }
            return sum;
        }

        void tilt(Ways ways, int row, int tilt) {
            int c = ways.cells;
            for (int i = 0; i < c; i++) {
                height[row][i] = Math.max(0, Math.min(ways.rim, ways.fill + tilt * (c - 1 - 2 * i) / (c - 1)));
            }
            Arrays.fill(flow[row], 0);
        }

        int law(Ways ways, String law, int push) {
            if (law.isEmpty()) {
                return push;
            }
            int late = ways.late == 0 ? slope(0) : seen.size() < ways.late ? 0 : seen.get(seen.size() - ways.late);
            return bounded(eval(law, push, late, seen.size(), ways.foam, height[0][0]));
        }
    }

    /** One TICK of a walk. */
    private record Beat(int push, int sway, int wander, int step) {
    }

    /** What came of a trial. */
    private static final class Came {
        int spilt;
        List<Integer> when = new ArrayList<>();
        int greatest;
        int steepest;
    }

    private Ways ways = new Ways();
    private Now now = new Now(ways);
    private int hand = 3;
    private final Map<Integer, Now> kept = new HashMap<>();
    private String text = "";
    private final List<List<Beat>> walks = new ArrayList<>(Collections.nCopies(4, List.of()));
    private final int[] leads = new int[4];
    private final String[] laws = {"", "", ""};
    private final List<Integer> spots = new ArrayList<>();
    private final List<int[]> films = new ArrayList<>();
    private List<Long> row = new ArrayList<>();

    private static int bounded(int push) {
        return Math.max(-500, Math.min(500, push));
    }

    private static boolean in(int v, int least, int most) {
        return least <= v && v <= most;
    }

    private void tell(long... numbers) {
        row = new ArrayList<>();
        for (long n : numbers) {
            row.add(n);
        }
    }

    private long[] lowest(int upper, int lower) {
        for (int d = Math.max(Math.abs(upper), lower); d > 1; d--) {
            if (upper % d == 0 && lower % d == 0) {
                return new long[] {upper / d, lower / d};
            }
        }
        return new long[] {upper, lower};
    }

    // ---- trials

    private String lawOfHand(int h) {
        return h == 3 ? "" : laws[h];
    }

    private Ways trial() {
        Ways w = ways.copy();
        w.law = lawOfHand(hand);
        return w;
    }

    /** A beat of null is a TICK without PUSHES. */
    private static Came carry(Ways w, List<Beat> beats, int seed, int turnAt) {
        Now n = new Now(w);
        n.r = seed;
        Came came = new Came();
        for (Beat b : beats) {
            int i = n.seen.size();
            int over = b == null ? n.tick(w, 0, 0) : beat(w, n, b, i >= turnAt);
            came.spilt += over;
            if (over > 0) {
                came.when.add(i);
            }
            for (int[] h : n.height) {
                came.greatest = Math.max(came.greatest, Math.max(h[0], h[h.length - 1]));
            }
            came.steepest = Math.max(came.steepest, Math.abs(n.slope(0)));
        }
        return came;
    }

    private static int beat(Ways w, Now n, Beat b, boolean turned) {
        int push = b.push;
        if (b.wander > 0) {
            n.r = n.r * 1103515245 + 12345;
            push += (int) ((n.r & 0xffffffffL) / 65536 % (2 * b.wander + 1)) - b.wander;
        }
        push = n.law(w, w.law, push);
        return turned ? n.tick(w, b.sway, push) : n.tick(w, push, b.sway);
    }

    private static Came carry(Ways w, List<Beat> beats) {
        return carry(w, beats, 1, FAR_AWAY);
    }

    // ---- the cup

    public boolean cup(int cells, int rim, int fill) {
        if (!in(cells, 2, 20) || !in(rim, 1, 999) || !in(fill, 0, rim)) {
            return false;
        }
        ways.cells = cells;
        ways.rim = rim;
        ways.fill = fill;
        ways.walls.clear();
        kept.clear();
        fresh();
        return true;
    }

    public int set(int what, int v) {
        int[] is = {ways.stiff, ways.damp, ways.foam, ways.bite, ways.lid, ways.late, hand};
        int[][] bounds = {{1, 16}, {0, 50}, {0, 9}, {0, 20}, {0, 100}, {0, 20}, {0, 3}};
        if (!in(what, 0, 6) || !in(v, bounds[what][0], bounds[what][1])) {
            return -1;
        }
        int was = is[what];
        is[what] = v;
        ways.stiff = is[0];
        ways.damp = is[1];
        ways.foam = is[2];
        ways.bite = is[3];
        ways.lid = is[4];
        ways.late = is[5];
        hand = is[6];
        return was;
    }

    public int wall(int gap, int v) {
        if (!in(gap, 0, ways.cells - 2) || !in(v, 0, 100)) {
            return -1;
        }
        Integer was = ways.walls.put(gap, v);
        return was == null ? 100 : was;
    }

    public int sheet(int kind, int n, int f, int step) {
        if (!in(kind, 0, 3) || n > ways.cells - 1) {
            return -1;
        }
        if (kind != 3 && n < 0) {
            return -2;
        }
        ways.walls.clear();
        if (kind == 3) {
            return -3;
        }
        int sum = 100 * (ways.cells - 1 - n);
        int entry = f;
        for (int gap = 0; gap < n; gap++, entry += step) {
            int cut = kind == 0 ? (byte) entry : kind == 1 ? (short) entry : entry;
            ways.walls.put(gap, Math.max(0, Math.min(100, cut)));
            sum += ways.walls.get(gap);
        }
        return sum;
    }

    public int fresh() {
        int was = now.seen.size();
        int r = now.r;
        now = new Now(ways);
        now.r = r;
        return was;
    }

    public boolean tilt(int row, int tilt) {
        if (!in(row, 0, 1) || !in(tilt, -500, 500)) {
            return false;
        }
        now.tilt(ways, row, tilt);
        return true;
    }

    public int tick(int along, int across) {
        return in(along, -500, 500) && in(across, -500, 500) ? now.tick(ways, along, across) : -1;
    }

    public int cell(int row, int cell, int what) {
        if (!in(row, 0, 1) || !in(cell, 0, ways.cells - 1) || !in(what, 0, 1)) {
            throw new NoSuchElementException();
        }
        return what == 0 ? now.height[row][cell] : cell == ways.cells - 1 ? 0 : now.flow[row][cell];
    }

    public int of(int row, int what) {
        if (!in(row, 0, 1) || !in(what, 0, 3)) {
            throw new NoSuchElementException();
        }
        int[] h = now.height[row];
        return new int[] {now.slope(row), now.spilt[row], Arrays.stream(h).sum(), Arrays.stream(h).max().getAsInt()}[what];
    }

    // ---- texts

    private static final Pattern WALK;
    private static final Pattern LAW;

    static {
        String n = "[0-9]{1,3}+";
        String part = "(?:g" + n + "," + n + "," + n + "\\*" + n + "|s" + n + "|j-?+" + n + "|w" + n + ")";
        WALK = Pattern.compile(part + "(?:;" + part + ")*+");
        String expression = "";
        for (int depth = 4; depth >= 0; depth--) {
            String inner = depth == 4 ? "" : "|\\(" + expression + "\\)";
            String thing = "-*+(?:[0-9]{1,3}+|[pstfh]" + inner + ")";
            expression = "(?:" + thing + "(?:[-+*/]" + thing + ")*+)";
        }
        LAW = Pattern.compile(expression);
    }

    /** The place of the first sign that cannot stand where it stands; -1: all is well. */
    private static int wrongSign(Pattern grammar, String signs) {
        for (int length = 1; length <= signs.length(); length++) {
            Matcher m = grammar.matcher(signs.substring(0, length));
            if (!m.matches() && !m.hitEnd()) {
                return length - 1;
            }
        }
        return grammar.matcher(signs).matches() ? -1 : signs.length();
    }

    private static int wrongNumber(String signs, int upTo) {
        int[][] g = {{0, 200}, {2, 40}, {0, 200}, {1, 50}};
        int ticks = 0;
        int each = 0;
        int place = 0;
        char kind = ' ';
        Matcher m = Pattern.compile("[gsjw]|[0-9]{1,3}").matcher(signs.substring(0, upTo));
        while (m.find()) {
            if (!Character.isDigit(m.group().charAt(0))) {
                kind = m.group().charAt(0);
                place = 0;
                continue;
            }
            int v = Integer.parseInt(m.group());
            int[] bounds = kind == 'g' ? g[Math.min(3, place)]
                : kind == 's' ? new int[] {1, 99} : kind == 'j' ? new int[] {0, 200} : new int[] {0, 50};
            each = kind == 'g' && place == 1 ? v : each;
            ticks += kind == 's' ? v : kind == 'j' ? 1 : kind == 'g' && place == 3 ? each * v : 0;
            if (!in(v, bounds[0], bounds[1]) || ticks > 1000) {
                return m.end() - 1;
            }
            place++;
        }
        return -1;
    }

    /** Where a text is wrong, or -1. */
    private static int wrong(Pattern grammar, String signs, int most, boolean numbers) {
        if (signs.isEmpty()) {
            return -1;
        }
        String first = signs.substring(0, Math.min(most, signs.length()));
        int sign = wrongSign(grammar, first);
        int number = numbers ? wrongNumber(first, sign < 0 ? first.length() : sign) : -1;
        if (number >= 0) {
            return number;
        }
        return sign < 0 && signs.length() > most ? most : sign;
    }

    public int sign(int v) {
        if (text.length() + 4 > 80) {
            return -1;
        }
        for (int i = 3; i >= 0; i--) {
            text += (char) (v >> 8 * i & 0xff);
        }
        return text.length();
    }

    public boolean end(int n) {
        if (n < 0 || n > text.length()) {
            return false;
        }
        text = text.substring(0, n);
        return true;
    }

    public int walk(int i) {
        String signs = text;
        text = "";
        if (!in(i, 0, 3)) {
            return -100;
        }
        int wrong = wrong(WALK, signs, 60, true);
        if (wrong >= 0) {
            return -1 - wrong;
        }
        walks.set(i, Carry.ticks(signs).stream().map(t -> new Beat(t[0], t[1], t[2], t[3])).toList());
        return walks.get(i).size();
    }

    public int law(int i) {
        String signs = text;
        text = "";
        if (!in(i, 0, 2)) {
            return -100;
        }
        int wrong = wrong(LAW, signs, 40, false);
        if (wrong < 0) {
            laws[i] = signs;
        }
        return wrong < 0 ? 0 : -1 - wrong;
    }

    private static int eval(String e, int p, int s, int t, int f, int h) {
        for (String level : new String[] {"+-", "*/"}) {
            int depth = 0;
            for (int i = e.length() - 1; i > 0; i--) {
                char c = e.charAt(i);
                depth += c == ')' ? 1 : c == '(' ? -1 : 0;
                boolean binary = "+-*/(".indexOf(e.charAt(i - 1)) < 0;
                if (depth == 0 && level.indexOf(c) >= 0 && binary) {
                    int a = eval(e.substring(0, i), p, s, t, f, h);
                    int b = eval(e.substring(i + 1), p, s, t, f, h);
                    return c == '+' ? a + b : c == '-' ? a - b : c == '*' ? a * b : b == 0 ? 0 : a / b;
                }
            }
        }
        switch (e.charAt(0)) {
            case '-':
                return -eval(e.substring(1), p, s, t, f, h);
            case '(':
                return eval(e.substring(1, e.length() - 1), p, s, t, f, h);
            case 'p':
                return p;
            case 's':
                return s;
            case 't':
                return t;
            case 'f':
                return f;
            case 'h':
                return h;
            default:
                return Integer.parseInt(e);
        }
    }

    private boolean isLaw(int law) {
        return in(law, 0, 2) && !laws[law].isEmpty();
    }

    public int gives(int law, int push) {
        if (!isLaw(law) || !in(push, -500, 500)) {
            throw new NoSuchElementException();
        }
        return now.law(ways, laws[law], push);
    }

    public int steps(int walk) {
        if (!in(walk, 0, 3)) {
            return -1;
        }
        List<Beat> w = walks.get(walk);
        tell(w.size(), w.stream().mapToInt(b -> Math.abs(b.push)).sum(), w.stream().mapToInt(b -> Math.abs(b.sway)).sum());
        return w.stream().mapToInt(Beat::step).max().orElse(-1) + 1;
    }

    public int go(int walk, int from, int n) {
        if (!in(walk, 0, 3) || !in(from, 0, 1000) || !in(n, 0, 1000)) {
            return -1;
        }
        Ways w = trial();
        int sum = 0;
        for (int i = from; i < from + n && i < walks.get(walk).size(); i++) {
            sum += beat(w, now, walks.get(walk).get(i), false);
        }
        return sum;
    }

    // ---- its own swing

    private static int[] slopes(Ways w, int tilt) {
        Now n = new Now(w);
        n.tilt(w, 0, tilt);
        int[] slopes = new int[401];
        slopes[0] = n.slope(0);
        for (int i = 1; i <= 400; i++) {
            n.tick(w, 0, 0);
            slopes[i] = n.slope(0);
        }
        return slopes;
    }

    public int swing(int tilt) {
        if (!in(tilt, 1, 500)) {
            return -1;
        }
        int[] s = slopes(ways, tilt);
        for (int n = 2; n < 400; n++) {
            if (s[n] > s[n - 1] && !(s[n] < s[n + 1])) {
                tell(s[0], s[n]);
                return n;
            }
        }
        return -2;
    }

    public int dies(int tilt, int part) {
        if (!in(tilt, 1, 500) || !in(part, 1, 100)) {
            return -1;
        }
        int[] s = slopes(ways, tilt);
        for (int n = 0; n <= 400; n++) {
            if (Arrays.stream(s, n, 401).allMatch(v -> Math.abs(v) <= Math.abs(s[0]) * part / 100)) {
                return n;
            }
        }
        return -2;
    }

    public int worst(int push) {
        if (!in(push, 1, 200)) {
            return -1;
        }
        int best = 0;
        int greatest = -1;
        for (int n = 2; n <= 40; n++) {
            List<Beat> beats = new ArrayList<>();
            for (int i = 0; i < 20 * n; i++) {
                beats.add(new Beat(i % n < n / 2 ? push : -push, 0, 0, 0));
            }
            Ways w = trial();
            w.lid = 100;
            int size = carry(w, beats).steepest;
            best = size > greatest ? n : best;
            greatest = Math.max(size, greatest);
        }
        tell(greatest);
        return best;
    }

    // ---- what spills

    public int would(int walk, int v) {
        if (!in(walk, 0, 3)) {
            return -1;
        }
        Came c = carry(trial(), walks.get(walk), v, FAR_AWAY);
        int first = c.when.isEmpty() ? -1 : c.when.get(0);
        tell(first, first < 0 ? -1 : walks.get(walk).get(first).step, c.greatest);
        return c.spilt;
    }

    public int odds(int walk, int n) {
        if (!in(walk, 0, 3) || !in(n, 1, 20)) {
            return -1;
        }
        List<Integer> steps = new ArrayList<>();
        int ways = 0;
        for (int r = 1; r <= n; r++) {
            Came c = carry(trial(), walks.get(walk), r, FAR_AWAY);
            if (c.spilt > 0) {
                ways++;
                steps.add(walks.get(walk).get(c.when.get(0)).step);
            }
        }
        steps.removeIf(s -> s < 0);
        Collections.sort(steps);
        int best = -1;
        for (int s : steps) {
            best = best < 0 || Collections.frequency(steps, s) > Collections.frequency(steps, best) ? s : best;
        }
        long[] share = lowest(ways, n);
        tell(share[0], share[1], best);
        return 0;
    }

    public int full(int walk) {
        if (!in(walk, 0, 3)) {
            return -1;
        }
        int best = -2;
        for (int k = 0; k <= 20; k++) {
            Ways w = trial();
            w.fill = ways.rim * k / 20;
            best = carry(w, walks.get(walk)).spilt == 0 ? w.fill : best;
        }
        return best;
    }

    public int leads(int walk, int metres) {
        if (!in(walk, 0, 3) || !in(metres, 0, 99)) {
            return -1;
        }
        int was = leads[walk];
        leads[walk] = metres;
        return was;
    }

    public int plan(int metres) {
        if (!in(metres, 1, 400)) {
            return -1;
        }
        List<Integer> best = null;
        int least = FAR_AWAY;
        for (List<Integer> r : allRows()) {
            int led = r.stream().mapToInt(i -> leads[i]).sum();
            List<Beat> beats = new ArrayList<>();
            r.forEach(i -> beats.addAll(walks.get(i)));
            boolean needed = led >= metres && led - leads[r.get(r.size() - 1)] < metres;
            if (needed && r.stream().allMatch(i -> leads[i] > 0) && beats.size() < least
                && carry(trial(), beats).spilt == 0) {
                least = beats.size();
                best = r;
            }
        }
        if (best == null) {
            return -2;
        }
        tell(best.stream().mapToLong(i -> i).toArray());
        return least;
    }

    /** All rows of 1 to 4 WALKS, the least first. */
    private static List<List<Integer>> allRows() {
        List<List<Integer>> rows = new ArrayList<>();
        for (int code = 0; code < 625; code++) {
            List<Integer> r = List.of(code / 125 - 1, code / 25 % 5 - 1, code / 5 % 5 - 1, code % 5 - 1);
            int end = r.indexOf(-1) < 0 ? 4 : r.indexOf(-1);
            if (end > 0 && r.subList(end, 4).stream().allMatch(i -> i == -1)) {
                rows.add(r.subList(0, end));
            }
        }
        return rows;
    }

    public int helps(int walk, int law) {
        if (!in(walk, 0, 3) || !isLaw(law)) {
            return -1;
        }
        Ways w = trial();
        w.law = "";
        int without = carry(w, walks.get(walk)).spilt;
        w.law = laws[law];
        int[] with = new int[21];
        int bits = 0;
        for (w.late = 0; w.late <= 20; w.late++) {
            with[w.late] = carry(w, walks.get(walk)).spilt;
            bits += with[w.late] < without ? 1 << w.late : 0;
        }
        int least = Arrays.stream(with).min().getAsInt();
        int first = 0;
        while (with[first] != least) {
            first++;
        }
        tell(without, least, first);
        return bits;
    }

    // ---- foam, walls, lids

    public int layers(int walk) {
        if (!in(walk, 0, 3)) {
            return -1;
        }
        Ways w = trial();
        for (w.foam = 0; w.foam <= 9; w.foam++) {
            if (carry(w, walks.get(walk)).spilt == 0) {
                return w.foam;
            }
        }
        return -2;
    }

    public int off(int tilt, int n, int k) {
        if (!in(tilt, 1, 500) || !in(n, 1, 400) || !in(k, 0, 9)) {
            return -1;
        }
        int[] sizes = new int[2];
        for (int i = 0; i < 2; i++) {
            Ways w = ways.copy();
            w.foam = i == 0 ? k : 0;
            sizes[i] = Arrays.stream(slopes(w, tilt), Math.max(1, n / 2), n + 1).map(Math::abs).max().getAsInt();
        }
        long[] part = sizes[1] == 0 ? new long[] {0, 1} : lowest(sizes[1] - sizes[0], sizes[1]);
        tell(sizes[0], sizes[1], part[0], part[1]);
        return 0;
    }

    public int few(int walk, int hole) {
        if (!in(walk, 0, 3) || !in(hole, 0, 99)) {
            return -1;
        }
        List<List<Integer>> sets = new ArrayList<>();
        sets.add(List.of());
        List<Integer> free = new ArrayList<>();
        for (int gap = 0; gap < ways.cells - 1; gap++) {
            if (ways.walls.getOrDefault(gap, 100) == 100) {
                free.add(gap);
            }
        }
        free.forEach(gap -> sets.add(List.of(gap)));
        free.forEach(one -> free.stream().filter(two -> two > one).forEach(two -> sets.add(List.of(one, two))));
        for (List<Integer> gaps : sets) {
            Ways w = trial();
            gaps.forEach(gap -> w.walls.put(gap, hole));
            if (carry(w, walks.get(walk)).spilt == 0) {
                tell(gaps.stream().mapToLong(i -> i).toArray());
                return gaps.size();
            }
        }
        return -2;
    }

    public int best(int walk, int gap) {
        if (!in(walk, 0, 3) || !in(gap, 0, ways.cells - 2)) {
            return -1;
        }
        int least = FAR_AWAY;
        int best = -1;
        for (int hole = 0; hole <= 100; hole++) {
            Ways w = trial();
            w.walls.put(gap, hole);
            int greatest = carry(w, walks.get(walk)).greatest;
            best = greatest <= least ? hole : best;
            least = Math.min(least, greatest);
        }
        tell(least);
        return best;
    }

    public int lid(int walk, int most) {
        if (!in(walk, 0, 3) || !in(most, 0, 9999)) {
            return -1;
        }
        Ways w = trial();
        for (w.lid = 0; w.lid <= 100; w.lid++) {
            if (carry(w, walks.get(walk)).spilt <= most) {
                return w.lid;
            }
        }
        return -2;
    }

    // ---- other cups, a door, two hands

    public int form(int bits) {
        if (!in(bits, 1, 15)) {
            return -1;
        }
        Ways w = trial();
        w.walls.clear();
        for (w.cells = 2; w.cells <= 20; w.cells++) {
            int sum = 0;
            for (int i = 0; i < 4; i++) {
                sum += (bits >> i) % 2 == 1 ? carry(w, walks.get(i)).spilt : 0;
            }
            if (sum == 0) {
                return w.cells;
            }
        }
        return -2;
    }

    public int turn(int walk, int at) {
        if (!in(walk, 0, 3) || !in(at, 0, 1000)) {
            return -1;
        }
        tell(carry(trial(), walks.get(walk)).spilt);
        return carry(trial(), walks.get(walk), 1, at).spilt;
    }

    public int door(int walk) {
        if (!in(walk, 0, 3)) {
            return -1;
        }
        TreeSet<Integer> doors = new TreeSet<>();
        doors.add(walks.get(walk).size());
        for (int at = 0; at < walks.get(walk).size(); at += 10) {
            doors.add(at);
        }
        int[] ats = doors.stream().mapToInt(i -> i).toArray();
        return ats[firstLeast(Arrays.stream(ats).map(at -> carry(trial(), walks.get(walk), 1, at).spilt).toArray())];
    }

    /** The place of the least; the ROW is that. */
    private int firstLeast(int[] numbers) {
        int least = Arrays.stream(numbers).min().getAsInt();
        tell(least);
        int i = 0;
        while (numbers[i] != least) {
            i++;
        }
        return i;
    }

    public int two(int walk) {
        if (!in(walk, 0, 3)) {
            return -1;
        }
        List<Beat> beats = walks.get(walk);
        int first = carry(trial(), beats).spilt;
        int[] both = new int[41];
        for (int i = 0; i <= 40; i++) {
            both[i] = first + carry(trial(), beats.subList(Math.min(i, beats.size()), beats.size())).spilt;
        }
        int best = firstLeast(both);
        tell(first, both[best] - first);
        return best;
    }

    public int stop(int speed) {
        if (!in(speed, 1, 5000)) {
            return -1;
        }
        for (int n = 1; n <= 200; n++) {
            List<Beat> beats = new ArrayList<>();
            for (int i = 0; i < n; i++) {
                beats.add(new Beat(speed / n + (i < speed - speed / n * n ? 1 : 0), 0, 0, -1));
            }
            boolean hard = beats.stream().anyMatch(b -> b.push > 500);
            beats.addAll(Collections.nCopies(100, null));
            Came c = carry(ways.copy(), beats);
            if (!hard && c.spilt == 0) {
                tell(c.greatest);
                return n;
            }
        }
        return -2;
    }

    public int pause(int walk, int at) {
        if (!in(walk, 0, 3) || !in(at, 0, 1000)) {
            return -1;
        }
        int[] spilt = new int[41];
        for (int i = 0; i <= 40; i++) {
            List<Beat> beats = new ArrayList<>(walks.get(walk));
            beats.addAll(Math.min(at, beats.size()), Collections.nCopies(i, null));
            spilt[i] = carry(trial(), beats).spilt;
        }
        return firstLeast(spilt);
    }

    public long stir(int row) {
        if (!in(row, 0, 1)) {
            return -1;
        }
        return Arrays.stream(now.height[row]).mapToLong(h -> (long) (h - ways.fill) * (h - ways.fill)).sum()
            + Arrays.stream(now.flow[row]).mapToLong(f -> (long) (f / 8) * (f / 8)).sum();
    }

    // ---- spots on the floor

    public int spot(int tick) {
        if (!in(tick, 0, 1000) || spots.size() == 12) {
            return -1;
        }
        spots.add(tick);
        return spots.size();
    }

    public int wipe() {
        int were = spots.size();
        spots.clear();
        return were;
    }

    private static int toNearest(List<Integer> from, List<Integer> to) {
        return from.stream().mapToInt(a -> to.stream().mapToInt(b -> Math.abs(a - b)).min().orElse(1000)).sum();
    }

    public int far(int walk, int h) {
        if (!in(walk, 0, 3) || h != 3 && !isLaw(h)) {
            return -1;
        }
        Ways w = ways.copy();
        w.law = lawOfHand(h);
        List<Integer> when = carry(w, walks.get(walk)).when;
        return toNearest(spots, when) + toNearest(when, spots);
    }

    public int who() {
        List<int[]> all = new ArrayList<>();
        for (int walk = 0; walk < 4; walk++) {
            for (int h = 0; h < 4 && !walks.get(walk).isEmpty(); h++) {
                if (h == 3 || isLaw(h)) {
                    all.add(new int[] {far(walk, h), walk, h});
                }
            }
        }
        if (all.isEmpty()) {
            return -2;
        }
        int least = all.stream().mapToInt(a -> a[0]).min().getAsInt();
        all.removeIf(a -> a[0] != least);
        tell(all.get(0)[1], all.get(0)[2], all.size());
        return least;
    }

    // ---- films of a hand

    public int film(int push, int slope, int tick, int given) {
        if (!in(push, -500, 500) || !in(slope, -999, 999) || !in(tick, 0, 1000) || !in(given, -500, 500)
            || films.size() == 20) {
            return -1;
        }
        films.add(new int[] {push, slope, tick, given});
        return films.size();
    }

    public int fits(int law, int within) {
        if (!isLaw(law) || !in(within, 0, 99)) {
            return -1;
        }
        List<Integer> off = new ArrayList<>();
        for (int[] f : films) {
            off.add(Math.abs(bounded(eval(laws[law], f[0], f[1], f[2], ways.foam, ways.fill)) - f[3]));
        }
        tell(off.stream().mapToInt(i -> i).sum(), off.isEmpty() ? -1 : off.indexOf(Collections.max(off)));
        return (int) off.stream().filter(o -> o <= within).count();
    }

    public int reads() {
        if (films.isEmpty()) {
            return -1;
        }
        long least = Long.MAX_VALUE;
        for (int ab = 0; ab < 441; ab++) {
            int a = ab / 21;
            int b = ab % 21;
            long sum = films.stream().mapToLong(f -> Math.abs(bounded(f[0] * a / 10 - f[1] * b / 10) - f[3])).sum();
            if (sum < least) {
                least = sum;
                tell(a, b, sum);
            }
        }
        return 0;
    }

    // ---- kept

    public int seed(int v) {
        int was = now.r;
        now.r = v;
        return was;
    }

    public boolean keep(int i) {
        if (in(i, 0, 2)) {
            kept.put(i, now.copy(ways));
        }
        return in(i, 0, 2);
    }

    public boolean again(int i) {
        if (kept.get(i) == null) {
            return false;
        }
        now = kept.get(i).copy(ways);
        return true;
    }

    public int count(int what) {
        int bits = (isLaw(0) ? 1 : 0) + (isLaw(1) ? 2 : 0) + (isLaw(2) ? 4 : 0);
        int walls = (int) ways.walls.values().stream().filter(h -> h < 100).count();
        int[] counts = {ways.cells, ways.rim, ways.fill, now.seen.size(), bits, spots.size(), films.size(), row.size(),
            text.length(), walls};
        return in(what, 0, 9) ? counts[what] : -1;
    }

    public long row(int i) {
        if (!in(i, 0, row.size() - 1)) {
            throw new NoSuchElementException();
        }
        return row.get(i);
    }
}
