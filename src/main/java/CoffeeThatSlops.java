import java.util.Arrays;
import java.util.NoSuchElementException;

/**
 * A cup of coffee in cells along and across, carried by walks, in a hand that gives by a law.
 * The words in capitals (TICK, SLOPE, HOLE, FRESH ..) are those of the document.
 */
public final class CoffeeThatSlops {
    public static final int NONE = -1;

    private static final int NO_WAY = -2;
    private static final int NO_SHEET = -3;
    private static final int NO_SUCH_PLACE = -100;

    private static final int MOST_CELLS = 20;
    private static final int MOST_RIM = 999;
    private static final int OPEN = 100;
    private static final int MOST_PUSH = 500;
    private static final int MOST_TILT = 500;
    private static final int MOST_TICKS = 1000;
    private static final int MOST_LATE = 20;
    private static final int MOST_FLOW = 8000;
    private static final int MOST_SIGNS = 80;
    private static final int MOST_WALK_SIGNS = 60;
    private static final int MOST_LAW_SIGNS = 40;
    private static final int MOST_BRACKETS = 4;
    private static final int MOST_STEP_PUSH = 200;
    private static final int MOST_STEP_TICKS = 40;
    private static final int MOST_SPOTS = 12;
    private static final int MOST_FILMS = 20;
    private static final int MOST_TOLD = 4;
    private static final int LONGEST_SWING = 400;
    private static final int FARTHEST = 1000;
    private static final int LATER = 40;
    // no two ints take so many to find their common divisor
    private static final int MOST_DIVISIONS = 100;

    private static final int WALKS = 4;
    private static final int LAWS = 3;
    private static final int NO_LAW = 3;
    private static final int KEPT = 3;

    private static final int STIFF = 0;
    private static final int DAMP = 1;
    private static final int FOAM = 2;
    private static final int BITE = 3;
    private static final int LID = 4;
    private static final int LATE = 5;
    private static final int HAND = 6;
    private static final int[] LEAST_SETTINGS = {1, 0, 0, 0, 0, 0, 0};
    private static final int[] MOST_SETTINGS = {16, 50, 9, 20, 100, 20, 3};

    private static final int BYTES = 0;
    private static final int SHORTS = 1;
    private static final int MISSING = 3;

    private final Cup cup = new Cup();
    private final State state = new State();
    private final State[] kept = new State[KEPT];
    private int keptBits = 0;
    private final Text text = new Text();
    private final Walk[] walks = new Walk[WALKS];
    private final int[] metres = new int[WALKS];
    private Walk spareWalk = new Walk();
    private final Law[] laws = new Law[LAWS];
    private Law spareLaw = new Law();
    private final Trial trial = new Trial();
    private final Planner planner = new Planner();
    private final int[] spots = new int[MOST_SPOTS];
    private int spotCount = 0;
    private final Films films = new Films();
    private final long[] told = new long[MOST_TOLD];
    private int toldCount = 0;

    public CoffeeThatSlops() {
        for (int i = 0; i < KEPT; i++) {
            kept[i] = new State();
        }
        for (int i = 0; i < WALKS; i++) {
            walks[i] = new Walk();
        }
        for (int i = 0; i < LAWS; i++) {
            laws[i] = new Law();
        }
        state.freshen(cup);
    }

    // ---- the cup

    public boolean cup(int cells, int rim, int fill) {
        if (!isIn(cells, 2, MOST_CELLS) || !isIn(rim, 1, MOST_RIM) || !isIn(fill, 0, rim)) {
            return false;
        }
        cup.last = cells - 1;
        cup.rim = rim;
        cup.fill = fill;
        cup.openAll();
        state.freshen(cup);
        keptBits = 0;
        return true;
    }

    public int set(int what, int v) {
        if (!isIn(what, STIFF, HAND) || !isIn(v, LEAST_SETTINGS[what], MOST_SETTINGS[what])) {
            return NONE;
        }
        int was = cup.settings[what];
        cup.settings[what] = v;
        return was;
    }

    public int wall(int gap, int v) {
        if (!isGap(gap) || !isIn(v, 0, OPEN)) {
            return NONE;
        }
        int was = cup.holes[gap];
        cup.holes[gap] = v;
        return was;
    }

    public int sheet(int kind, int n, int f, int step) {
        if (!isIn(kind, BYTES, MISSING) || n > cup.last) {
            return NONE;
        }
        if (kind == MISSING) {
            cup.openAll();
            return NO_SHEET;
        }
        if (n < 0) {
            return NO_WAY;
        }
        int sum = 0;
        for (int gap = 0; gap < cup.last; gap++) {
            cup.holes[gap] = gap < n ? between(sheetEntry(kind, f + gap * step), 0, OPEN) : OPEN;
            sum += cup.holes[gap];
        }
        return sum;
    }

    public int fresh() {
        int was = state.tick;
        state.freshen(cup);
        return was;
    }

    public boolean tilt(int row, int tilt) {
        if (!isRow(row) || !isIn(tilt, -MOST_TILT, MOST_TILT)) {
            return false;
        }
        state.rowOf(row).lean(cup, tilt);
        return true;
    }

    public int tick(int along, int across) {
        if (!isPush(along) || !isPush(across)) {
            return NONE;
        }
        return state.pass(cup, along, across);
    }

    public int cell(int row, int cell, int what) throws NoSuchElementException {
        if (!isRow(row) || !isIn(cell, 0, cup.last) || !isIn(what, 0, 1)) {
            throw new NoSuchElementException();
        }
        Row of = state.rowOf(row);
        if (what == 0) {
            return of.heights[cell];
        }
        return cell < cup.last ? of.flows[cell] : 0;
    }

    public int of(int row, int what) throws NoSuchElementException {
        if (!isRow(row) || !isIn(what, 0, 3)) {
            throw new NoSuchElementException();
        }
        Row of = state.rowOf(row);
        switch (what) {
            case 0:
                return of.slope(cup);
            case 1:
                return of.spilt;
            case 2:
                return of.contents(cup);
            default:
                return of.greatest(cup);
        }
    }

    private static int sheetEntry(int kind, int value) {
        if (kind == BYTES) {
            return (byte) value;
        }
        return kind == SHORTS ? (short) value : value;
    }

    // ---- walks, hands

    public int sign(int v) {
        return text.add(v) ? text.length : NONE;
    }

    public boolean end(int n) {
        if (!isIn(n, 0, text.length)) {
            return false;
        }
        text.length = n;
        return true;
    }

    public int walk(int i) {
        if (!isWalk(i)) {
            text.length = 0;
            return NO_SUCH_PLACE;
        }
        spareWalk.read(text);
        int wrong = text.finish();
        if (wrong != NONE) {
            return -1 - wrong;
        }
        Walk was = walks[i];
        walks[i] = spareWalk;
        spareWalk = was;
        return walks[i].ticks;
    }

    public int law(int i) {
        if (!isIn(i, 0, LAWS - 1)) {
            text.length = 0;
            return NO_SUCH_PLACE;
        }
        spareLaw.read(text);
        int wrong = text.finish();
        if (wrong != NONE) {
            return -1 - wrong;
        }
        Law was = laws[i];
        laws[i] = spareLaw;
        spareLaw = was;
        return 0;
    }

    public int gives(int law, int push) throws NoSuchElementException {
        Law by = toldLaw(law);
        if (by == null || !isPush(push)) {
            throw new NoSuchElementException();
        }
        return state.given(cup, by, push);
    }

    public int steps(int walk) {
        if (!isWalk(walk)) {
            return NONE;
        }
        Walk of = walks[walk];
        tell(of.ticks, of.sizes(of.along), of.sizes(of.across));
        return of.steps;
    }

    public int go(int walk, int from, int n) {
        if (!isWalk(walk) || !isIn(from, 0, MOST_TICKS) || !isIn(n, 0, MOST_TICKS)) {
            return NONE;
        }
        Walk on = walks[walk];
        Law by = toldLaw(cup.settings[HAND]);
        int end = Math.min(from + n, on.ticks);
        int spilt = 0;
        for (int i = from; i < end; i++) {
            spilt += state.carry(cup, by, on, i, false);
        }
        return spilt;
    }

    // ---- its own swing

    public int swing(int tilt) {
        if (!isIn(tilt, 1, MOST_TILT)) {
            return NONE;
        }
        int[] slopes = asItIs().letGo(tilt, LONGEST_SWING);
        for (int n = 2; n < LONGEST_SWING; n++) {
            if (slopes[n] > slopes[n - 1] && slopes[n] >= slopes[n + 1]) {
                tell(slopes[0], slopes[n]);
                return n;
            }
        }
        return NO_WAY;
    }

    public int dies(int tilt, int part) {
        if (!isIn(tilt, 1, MOST_TILT) || !isIn(part, 1, 100)) {
            return NONE;
        }
        int[] slopes = asItIs().letGo(tilt, LONGEST_SWING);
        int most = Math.abs(slopes[0]) * part / 100;
        int from = LONGEST_SWING + 1;
        while (from > 0 && Math.abs(slopes[from - 1]) <= most) {
            from--;
        }
        return from <= LONGEST_SWING ? from : NO_WAY;
    }

    public int worst(int push) {
        if (!isIn(push, 1, MOST_STEP_PUSH)) {
            return NONE;
        }
        int worst = NONE;
        int greatest = NONE;
        for (int n = 2; n <= MOST_STEP_TICKS; n++) {
            spareWalk.clear();
            spareWalk.addSteps(push, n, 0, 20);
            Trial by = asItIs();
            by.cup.settings[LID] = 100;
            by.spiltOn(spareWalk, 1);
            if (by.greatestSlope > greatest) {
                greatest = by.greatestSlope;
                worst = n;
            }
        }
        tell(greatest);
        return worst;
    }

    // ---- what spills

    public int would(int walk, int v) {
        if (!isWalk(walk)) {
            return NONE;
        }
        Trial by = asItIs();
        int spilt = by.spiltOn(walks[walk], v);
        tell(by.firstTick, walks[walk].stepAt(by.firstTick), by.greatest);
        return spilt;
    }

    public int odds(int walk, int n) {
        if (!isWalk(walk) || !isIn(n, 1, 20)) {
            return NONE;
        }
        Trial by = asItIs();
        by.clearFirsts();
        int ways = 0;
        for (int seed = 1; seed <= n; seed++) {
            if (by.spiltOn(walks[walk], seed) > 0) {
                ways++;
                by.countFirst(walks[walk].stepAt(by.firstTick));
            }
        }
        toldCount = 0;
        tellFraction(ways, n);
        tellMore(by.mostOftenFirst());
        return 0;
    }

    public int full(int walk) {
        if (!isWalk(walk)) {
            return NONE;
        }
        for (int k = 20; k >= 0; k--) {
            Trial by = asItIs();
            by.cup.fill = cup.rim * k / 20;
            if (by.keepsAll(walks[walk])) {
                return by.cup.fill;
            }
        }
        return NO_WAY;
    }

    public int leads(int walk, int metres) {
        if (!isWalk(walk) || !isIn(metres, 0, 99)) {
            return NONE;
        }
        int was = this.metres[walk];
        this.metres[walk] = metres;
        return was;
    }

    public int plan(int metres) {
        if (!isIn(metres, 1, 400)) {
            return NONE;
        }
        planner.begin(cup, toldLaw(cup.settings[HAND]), metres);
        extend(planner, walks, this.metres, 0, 0, 0);
        if (planner.bestLength == 0) {
            return NO_WAY;
        }
        toldCount = 0;
        for (int i = 0; i < planner.bestLength && i < planner.best.length; i++) {
            tellMore(planner.best[i]);
        }
        return planner.bestTicks;
    }

    public int helps(int walk, int law) {
        Law by = toldLaw(law);
        if (!isWalk(walk) || by == null) {
            return NONE;
        }
        Trial without = asItIs();
        without.law = null;
        int spiltWithout = without.spiltOn(walks[walk], 1);
        int bits = 0;
        int least = Integer.MAX_VALUE;
        int first = NONE;
        for (int late = 0; late <= MOST_LATE; late++) {
            Trial with = asItIs();
            with.law = by;
            with.cup.settings[LATE] = late;
            int spilt = with.spiltOn(walks[walk], 1);
            if (spilt < spiltWithout) {
                bits |= 1 << late;
            }
            if (spilt < least) {
                least = spilt;
                first = late;
            }
        }
        tell(spiltWithout, least, first);
        return bits;
    }

    // Rows come in their order, so of equal ones the first that is found is the least.
    private static void extend(Planner planner, Walk[] walks, int[] metres, int length, int led, int ticks) {
        for (int i = 0; i < WALKS && length < WALKS; i++) {
            int far = led + metres[i];
            int all = ticks + walks[i].ticks;
            if (metres[i] == 0 || all >= planner.bestTicks || !planner.carries(length, walks[i])) {
                continue;
            }
            planner.choose(length, i);
            if (far < planner.goal) {
                extend(planner, walks, metres, length + 1, far, all);
            } else {
                planner.noteBest(length + 1, all);
            }
        }
    }

    // ---- foam, walls, lids

    public int layers(int walk) {
        if (!isWalk(walk)) {
            return NONE;
        }
        for (int foam = 0; foam <= 9; foam++) {
            Trial by = asItIs();
            by.cup.settings[FOAM] = foam;
            if (by.keepsAll(walks[walk])) {
                return foam;
            }
        }
        return NO_WAY;
    }

    public int off(int tilt, int n, int k) {
        if (!isIn(tilt, 1, MOST_TILT) || !isIn(n, 1, LONGEST_SWING) || !isIn(k, 0, 9)) {
            return NONE;
        }
        int with = lateSlope(tilt, n, k);
        int without = lateSlope(tilt, n, 0);
        tell(with, without);
        tellFraction(without == 0 ? 0 : without - with, without);
        return 0;
    }

    public int few(int walk, int hole) {
        if (!isWalk(walk) || !isIn(hole, 0, OPEN - 1)) {
            return NONE;
        }
        if (asItIs().keepsAll(walks[walk])) {
            toldCount = 0;
            return 0;
        }
        for (int gap = 0; gap < cup.last; gap++) {
            if (isOpen(gap) && walled(hole, gap, gap).keepsAll(walks[walk])) {
                tell(gap);
                return 1;
            }
        }
        for (int one = 0; one < cup.last; one++) {
            for (int other = one + 1; other < cup.last; other++) {
                if (isOpen(one) && isOpen(other) && walled(hole, one, other).keepsAll(walks[walk])) {
                    tell(one, other);
                    return 2;
                }
            }
        }
        return NO_WAY;
    }

    public int best(int walk, int gap) {
        if (!isWalk(walk) || !isGap(gap)) {
            return NONE;
        }
        int best = NONE;
        int least = Integer.MAX_VALUE;
        for (int hole = OPEN; hole >= 0; hole--) {
            Trial by = asItIs();
            by.cup.holes[gap] = hole;
            by.spiltOn(walks[walk], 1);
            if (by.greatest < least) {
                least = by.greatest;
                best = hole;
            }
        }
        tell(least);
        return best;
    }

    public int lid(int walk, int most) {
        if (!isWalk(walk) || !isIn(most, 0, 9999)) {
            return NONE;
        }
        for (int lid = 0; lid <= 100; lid++) {
            Trial by = asItIs();
            by.cup.settings[LID] = lid;
            if (by.spiltOn(walks[walk], 1) <= most) {
                return lid;
            }
        }
        return NO_WAY;
    }

    /** The greatest size of SLOPE in the later half of n TICKS behind a tilt, with so much FOAM. */
    private int lateSlope(int tilt, int n, int foam) {
        Trial by = asItIs();
        by.cup.settings[FOAM] = foam;
        int[] slopes = by.letGo(tilt, n);
        int greatest = 0;
        for (int i = Math.max(1, n / 2); i <= n && i < slopes.length; i++) {
            greatest = Math.max(greatest, Math.abs(slopes[i]));
        }
        return greatest;
    }

    private boolean isOpen(int gap) {
        return isGap(gap) && cup.holes[gap] == OPEN;
    }

    private Trial walled(int hole, int one, int other) {
        Trial by = asItIs();
        by.cup.holes[one] = hole;
        by.cup.holes[other] = hole;
        return by;
    }

    // ---- other cups, a door, two hands

    public int form(int walks) {
        if (!isIn(walks, 1, (1 << WALKS) - 1)) {
            return NONE;
        }
        for (int cells = 2; cells <= MOST_CELLS; cells++) {
            Trial by = asItIs();
            by.cup.last = cells - 1;
            by.cup.openAll();
            boolean keepsAll = true;
            for (int i = 0; i < WALKS && keepsAll; i++) {
                keepsAll = (walks >> i & 1) == 0 || by.keepsAll(this.walks[i]);
            }
            if (keepsAll) {
                return cells;
            }
        }
        return NO_WAY;
    }

    public int turn(int walk, int at) {
        if (!isWalk(walk) || !isIn(at, 0, MOST_TICKS)) {
            return NONE;
        }
        tell(asItIs().spiltOn(walks[walk], 1));
        return asItIs().spiltWithTurn(walks[walk], at);
    }

    public int door(int walk) {
        if (!isWalk(walk)) {
            return NONE;
        }
        int best = NONE;
        int least = Integer.MAX_VALUE;
        int ticks = walks[walk].ticks;
        for (int tens = 0; tens < ticks + 10; tens += 10) {
            // the last door is at the WALK's TICKS, be they a multiple of 10 or not
            int at = Math.min(tens, ticks);
            int spilt = asItIs().spiltWithTurn(walks[walk], at);
            if (spilt < least) {
                least = spilt;
                best = at;
            }
        }
        tell(least);
        return best;
    }

    public int two(int walk) {
        if (!isWalk(walk)) {
            return NONE;
        }
        int first = asItIs().spiltOn(walks[walk], 1);
        int best = NONE;
        int least = Integer.MAX_VALUE;
        for (int from = 0; from <= LATER; from++) {
            int second = asItIs().spiltFrom(walks[walk], from);
            if (second < least) {
                least = second;
                best = from;
            }
        }
        tell(first, least);
        return best;
    }

    public int stop(int speed) {
        if (!isIn(speed, 1, 5000)) {
            return NONE;
        }
        for (int n = 1; n <= 200; n++) {
            if ((speed + n - 1) / n > MOST_PUSH) {
                continue;
            }
            brake(speed, n);
            Trial by = asItIs();
            by.law = null;
            if (by.keepsAll(spareWalk)) {
                tell(by.greatest);
                return n;
            }
        }
        return NO_WAY;
    }

    public int pause(int walk, int at) {
        if (!isWalk(walk) || !isIn(at, 0, MOST_TICKS)) {
            return NONE;
        }
        int best = NONE;
        int least = Integer.MAX_VALUE;
        for (int ticks = 0; ticks <= LATER; ticks++) {
            int spilt = asItIs().spiltWithPause(walks[walk], at, ticks);
            if (spilt < least) {
                least = spilt;
                best = ticks;
            }
        }
        tell(least);
        return best;
    }

    public long stir(int row) {
        return isRow(row) ? state.rowOf(row).restlessness(cup) : NONE;
    }

    /** Makes the spare WALK a lorry's stop in n TICKS and 100 TICKS behind it. */
    private void brake(int speed, int n) {
        spareWalk.clear();
        for (int i = 0; i < n; i++) {
            spareWalk.addTick(speed / n + (i < speed % n ? 1 : 0), 0, NONE);
        }
        for (int i = 0; i < 100; i++) {
            spareWalk.addTick(0, 0, NONE);
        }
    }

    // ---- spots on the floor

    public int spot(int tick) {
        if (!isIn(tick, 0, MOST_TICKS) || spotCount >= MOST_SPOTS) {
            return NONE;
        }
        spots[spotCount] = tick;
        spotCount++;
        return spotCount;
    }

    public int wipe() {
        int were = spotCount;
        spotCount = 0;
        return were;
    }

    public int far(int walk, int hand) {
        if (!isWalk(walk) || !isHand(hand)) {
            return NONE;
        }
        Trial by = asItIs();
        by.law = toldLaw(hand);
        by.spiltOn(walks[walk], 1);
        return distance(by);
    }

    public int who() {
        int least = Integer.MAX_VALUE;
        int bestWalk = NONE;
        int bestHand = NONE;
        int alike = 0;
        for (int walk = 0; walk < WALKS; walk++) {
            for (int hand = 0; hand <= NO_LAW; hand++) {
                if (walks[walk].ticks == 0 || !isHand(hand)) {
                    continue;
                }
                Trial by = asItIs();
                by.law = toldLaw(hand);
                by.spiltOn(walks[walk], 1);
                int far = distance(by);
                if (far < least) {
                    least = far;
                    bestWalk = walk;
                    bestHand = hand;
                    alike = 0;
                }
                alike += far == least ? 1 : 0;
            }
        }
        if (bestWalk == NONE) {
            return NO_WAY;
        }
        tell(bestWalk, bestHand, alike);
        return least;
    }

    /** How far the spots are from the TICKS in which something was SPILT. */
    private int distance(Trial by) {
        int sum = 0;
        for (int i = 0; i < spotCount; i++) {
            sum += nearest(spots[i], by.spillTicks, by.spillCount);
        }
        for (int i = 0; i < by.spillCount; i++) {
            sum += nearest(by.spillTicks[i], spots, spotCount);
        }
        return sum;
    }

    private static int nearest(int tick, int[] ticks, int count) {
        int least = FARTHEST;
        for (int i = 0; i < count && i < ticks.length; i++) {
            least = Math.min(least, Math.abs(tick - ticks[i]));
        }
        return least;
    }

    // ---- films of a hand

    public int film(int push, int slope, int tick, int given) {
        if (!isPush(push) || !isIn(slope, -999, 999) || !isIn(tick, 0, MOST_TICKS) || !isPush(given)) {
            return NONE;
        }
        return films.add(push, slope, tick, given) ? films.count : NONE;
    }

    public int fits(int law, int within) {
        Law by = toldLaw(law);
        if (by == null || !isIn(within, 0, 99)) {
            return NONE;
        }
        int fitting = 0;
        int sum = 0;
        int worst = NONE;
        int most = NONE;
        for (int i = 0; i < films.count; i++) {
            int off = films.offByLaw(i, by, cup);
            sum += off;
            fitting += off <= within ? 1 : 0;
            if (off > most) {
                most = off;
                worst = i;
            }
        }
        tell(sum, worst);
        return fitting;
    }

    public int reads() {
        if (films.count == 0) {
            return NONE;
        }
        int least = Integer.MAX_VALUE;
        int bestA = NONE;
        int bestB = NONE;
        for (int a = 0; a <= 20; a++) {
            for (int b = 0; b <= 20; b++) {
                int off = films.offByTenths(a, b);
                if (off < least) {
                    least = off;
                    bestA = a;
                    bestB = b;
                }
            }
        }
        tell(bestA, bestB, least);
        return 0;
    }

    // ---- kept

    public int seed(int v) {
        int was = state.drawn;
        state.drawn = v;
        return was;
    }

    public boolean keep(int i) {
        if (!isIn(i, 0, KEPT - 1)) {
            return false;
        }
        kept[i].copy(state);
        keptBits |= 1 << i;
        return true;
    }

    public boolean again(int i) {
        if (!isIn(i, 0, KEPT - 1) || (keptBits >> i & 1) == 0) {
            return false;
        }
        state.copy(kept[i]);
        return true;
    }

    public int count(int what) {
        switch (what) {
            case 0:
                return cup.last + 1;
            case 1:
                return cup.rim;
            case 2:
                return cup.fill;
            case 3:
                return state.tick;
            case 4:
                return toldLawBits();
            case 5:
                return spotCount;
            case 6:
                return films.count;
            case 7:
                return toldCount;
            case 8:
                return text.length;
            case 9:
                return cup.wallCount();
            default:
                return NONE;
        }
    }

    public long row(int i) throws NoSuchElementException {
        if (!isIn(i, 0, toldCount - 1)) {
            throw new NoSuchElementException();
        }
        return told[i];
    }

    private int toldLawBits() {
        int bits = 0;
        for (int i = 0; i < LAWS; i++) {
            bits |= laws[i].size > 0 ? 1 << i : 0;
        }
        return bits;
    }

    // ---- what many calls ask

    private static boolean isIn(int v, int least, int most) {
        return v >= least && v <= most;
    }

    private static int between(int v, int least, int most) {
        if (v < least) {
            return least;
        }
        return v > most ? most : v;
    }

    private static boolean isPush(int push) {
        return isIn(push, -MOST_PUSH, MOST_PUSH);
    }

    private static boolean isRow(int row) {
        return isIn(row, 0, 1);
    }

    private static boolean isWalk(int walk) {
        return isIn(walk, 0, WALKS - 1);
    }

    private boolean isGap(int gap) {
        return isIn(gap, 0, cup.last - 1);
    }

    private boolean isHand(int hand) {
        return hand == NO_LAW || toldLaw(hand) != null;
    }

    /** The LAW of that number; null, if none is told. */
    private Law toldLaw(int law) {
        return isIn(law, 0, LAWS - 1) && laws[law].size > 0 ? laws[law] : null;
    }

    /** The trial, of the cup as it is, by THE HAND. */
    private Trial asItIs() {
        trial.cup.copy(cup);
        trial.law = toldLaw(cup.settings[HAND]);
        return trial;
    }

    private void tell(long one) {
        toldCount = 0;
        tellMore(one);
    }

    private void tell(long one, long two) {
        tell(one);
        tellMore(two);
    }

    private void tell(long one, long two, long three) {
        tell(one, two);
        tellMore(three);
    }

    private void tellFraction(int upper, int lower) {
        int common = commonDivisor(Math.abs(upper), lower);
        tellMore(common == 0 ? 0 : upper / common);
        tellMore(common == 0 ? 1 : lower / common);
    }

    private void tellMore(long number) {
        if (toldCount < told.length) {
            told[toldCount] = number;
            toldCount++;
        }
    }

    private static int commonDivisor(int one, int other) {
        int common = one;
        int rest = other;
        for (int i = 0; i < MOST_DIVISIONS && rest > 0; i++) {
            int next = common % rest;
            common = rest;
            rest = next;
        }
        return common;
    }

    /** How a cup is made and set. */
    private static final class Cup {
        // the last CELL's number, 1 .. 19: so many GAPS there are too
        int last = 7;
        int rim = 100;
        int fill = 80;
        final int[] settings = {8, 2, 0, 6, 0, 0, NO_LAW};
        final int[] holes = new int[MOST_CELLS];

        Cup() {
            Arrays.fill(holes, OPEN);
        }

        void copy(Cup from) {
            last = from.last;
            rim = from.rim;
            fill = from.fill;
            System.arraycopy(from.settings, 0, settings, 0, settings.length);
            System.arraycopy(from.holes, 0, holes, 0, holes.length);
        }

        void openAll() {
            Arrays.fill(holes, OPEN);
        }

        int wallCount() {
            int count = 0;
            for (int gap = 0; gap < last; gap++) {
                count += holes[gap] < OPEN ? 1 : 0;
            }
            return count;
        }
    }

    /** HEIGHTS, FLOWS and what was SPILT, along or across. */
    private static final class Row {
        final int[] heights = new int[MOST_CELLS];
        final int[] flows = new int[MOST_CELLS];
        int spilt = 0;

        void freshen(Cup cup) {
            Arrays.fill(heights, cup.fill);
            Arrays.fill(flows, 0);
            spilt = 0;
        }

        void copy(Row from) {
            System.arraycopy(from.heights, 0, heights, 0, heights.length);
            System.arraycopy(from.flows, 0, flows, 0, flows.length);
            spilt = from.spilt;
        }

        void lean(Cup cup, int tilt) {
            int last = Math.max(1, cup.last);
            for (int c = 0; c <= last; c++) {
                heights[c] = between(cup.fill + tilt * (last - 2 * c) / last, 0, cup.rim);
            }
            Arrays.fill(flows, 0);
        }

        /** A TICK of this ROW: what is SPILT in it. */
        int pass(Cup cup, int push) {
            drive(cup, push);
            for (int gap = 0; gap < cup.last; gap++) {
                move(gap);
            }
            int over = runOver(cup, 0) + runOver(cup, cup.last);
            spilt += over;
            return over;
        }

        private void drive(Cup cup, int push) {
            int last = cup.last;
            int stiff = cup.settings[STIFF];
            int loss = Math.min(100, cup.settings[DAMP] + cup.settings[FOAM] * cup.settings[BITE]);
            for (int gap = 0; gap < last; gap++) {
                int flow = flows[gap] + stiff * (heights[gap] - heights[gap + 1]) / 16 + push;
                flow -= flow * loss / 100;
                flows[gap] = between(flow * cup.holes[gap] / 100, -MOST_FLOW, MOST_FLOW);
            }
        }

        private void move(int gap) {
            int wanted = flows[gap] / 8;
            int goes = between(wanted, -heights[gap + 1], heights[gap]);
            if (goes != wanted) {
                flows[gap] = 8 * goes;
            }
            heights[gap] -= goes;
            heights[gap + 1] += goes;
        }

        private int runOver(Cup cup, int cell) {
            int above = heights[cell] - cup.rim;
            if (above <= 0) {
                return 0;
            }
            int over = above - above * cup.settings[LID] / 100;
            heights[cell] -= over;
            return over;
        }

        int slope(Cup cup) {
            return heights[0] - heights[cup.last];
        }

        int higherEnd(Cup cup) {
            return Math.max(heights[0], heights[cup.last]);
        }

        int contents(Cup cup) {
            int sum = 0;
            for (int c = 0; c <= cup.last; c++) {
                sum += heights[c];
            }
            return sum;
        }

        int greatest(Cup cup) {
            int greatest = 0;
            for (int c = 0; c <= cup.last; c++) {
                greatest = Math.max(greatest, heights[c]);
            }
            return greatest;
        }

        long restlessness(Cup cup) {
            long sum = 0;
            for (int c = 0; c <= cup.last; c++) {
                long off = heights[c] - cup.fill;
                long flow = c < cup.last ? flows[c] / 8 : 0;
                sum += off * off + flow * flow;
            }
            return sum;
        }
    }

    /** THE STATE, R, and SLOPES that were seen. */
    private static final class State {
        int tick = 0;
        int drawn = 1;
        final Row along = new Row();
        final Row across = new Row();
        // SLOPES ALONG as TICKS began, each at its TICK's number by the length, so that eyes can see late
        final int[] seen = new int[MOST_LATE + 1];

        void freshen(Cup cup) {
            tick = 0;
            along.freshen(cup);
            across.freshen(cup);
        }

        void copy(State from) {
            tick = from.tick;
            drawn = from.drawn;
            along.copy(from.along);
            across.copy(from.across);
            System.arraycopy(from.seen, 0, seen, 0, seen.length);
        }

        Row rowOf(int row) {
            return row == 0 ? along : across;
        }

        /** A TICK with these PUSHES: what is SPILT in it, both ROWS. */
        int pass(Cup cup, int pushAlong, int pushAcross) {
            seen[Math.floorMod(tick, seen.length)] = along.slope(cup);
            int over = along.pass(cup, pushAlong) + across.pass(cup, pushAcross);
            tick++;
            return over;
        }

        /** A TICK of a WALK by a LAW (null: none); turned, the ROWS have one another's PUSHES. */
        int carry(Cup cup, Law law, Walk walk, int i, boolean turned) {
            int pushAlong = given(cup, law, walk.along[i] + wander(walk.wander[i]));
            int pushAcross = walk.across[i];
            return turned ? pass(cup, pushAcross, pushAlong) : pass(cup, pushAlong, pushAcross);
        }

        private int wander(int most) {
            if (most <= 0) {
                return 0;
            }
            drawn = drawn * 1103515245 + 12345;
            return (drawn >>> 16) % (2 * most + 1) - most;
        }

        int given(Cup cup, Law law, int push) {
            if (law == null) {
                return push;
            }
            int slope = slopeSeen(cup);
            return law.bounded(push, slope, tick, cup.settings[FOAM], along.heights[0]);
        }

        private int slopeSeen(Cup cup) {
            int late = cup.settings[LATE];
            if (late == 0) {
                return along.slope(cup);
            }
            return tick < late ? 0 : seen[Math.floorMod(tick - late, seen.length)];
        }
    }

    /** THE TEXT, and how far it is read. */
    private static final class Text {
        final char[] signs = new char[MOST_SIGNS];
        int length = 0;
        private int at = 0;
        private int end = 0;
        private int wrong = NONE;

        boolean add(int v) {
            if (length + 4 > signs.length) {
                return false;
            }
            for (int shift = 24; shift >= 0; shift -= 8) {
                signs[length] = (char) (v >>> shift & 255);
                length++;
            }
            return true;
        }

        /** Begins to read the first signs, at most so many: whether there are any. */
        boolean begin(int most) {
            at = 0;
            end = Math.min(length, most);
            wrong = NONE;
            return end > 0;
        }

        /** Ends reading, and empties the text: where it is wrong, or NONE. */
        int finish() {
            if (at < end || end < length) {
                fail(at);
            }
            length = 0;
            return wrong;
        }

        boolean isGood() {
            return wrong == NONE;
        }

        void fail(int place) {
            if (wrong == NONE) {
                wrong = place;
            }
        }

        void failHere() {
            fail(at);
        }

        void failAtLastDigit() {
            fail(at - 1);
        }

        int next() {
            return at < end && at < signs.length ? signs[at] : NONE;
        }

        /** Goes over that sign, if it is the next one. */
        boolean skip(char sign) {
            if (next() != sign) {
                return false;
            }
            at++;
            return true;
        }

        void need(char sign) {
            if (!skip(sign)) {
                failHere();
            }
        }

        boolean isAtDigit() {
            return isIn(next(), '0', '9');
        }

        int number(int least, int most) {
            int value = 0;
            int digits = 0;
            while (digits < 3 && isAtDigit()) {
                value = value * 10 + next() - '0';
                at++;
                digits++;
            }
            if (digits == 0) {
                failHere();
            } else if (!isIn(value, least, most)) {
                failAtLastDigit();
            }
            return value;
        }
    }

    /** A WALK, TICK by TICK. */
    private static final class Walk {
        final int[] along = new int[MOST_TICKS];
        final int[] across = new int[MOST_TICKS];
        final int[] wander = new int[MOST_TICKS];
        private final int[] step = new int[MOST_TICKS];
        int ticks = 0;
        int steps = 0;
        private int wanderNow = 0;

        void clear() {
            ticks = 0;
            steps = 0;
            wanderNow = 0;
        }

        void read(Text text) {
            clear();
            if (!text.begin(MOST_WALK_SIGNS)) {
                return;
            }
            readPart(text);
            for (int i = 0; i < MOST_WALK_SIGNS && text.isGood() && text.skip(';'); i++) {
                readPart(text);
            }
        }

        private void readPart(Text text) {
            if (text.skip('g')) {
                readSteps(text);
            } else if (text.skip('s')) {
                readStand(text);
            } else if (text.skip('j')) {
                readJerk(text);
            } else if (text.skip('w')) {
                wanderNow = text.number(0, 50);
            } else {
                text.failHere();
            }
        }

        private void readSteps(Text text) {
            int push = text.number(0, MOST_STEP_PUSH);
            text.need(',');
            int each = text.number(2, MOST_STEP_TICKS);
            text.need(',');
            int sway = text.number(0, MOST_STEP_PUSH);
            text.need('*');
            int times = text.number(1, 50);
            if (hasRoom(text, each * times)) {
                addSteps(push, each, sway, times);
            }
        }

        private void readStand(Text text) {
            int stand = text.number(1, 99);
            if (hasRoom(text, stand)) {
                for (int i = 0; i < stand; i++) {
                    addTick(0, 0, NONE);
                }
            }
        }

        private void readJerk(Text text) {
            boolean back = text.skip('-');
            int size = text.number(0, MOST_STEP_PUSH);
            if (hasRoom(text, 1)) {
                addTick(back ? -size : size, 0, NONE);
            }
        }

        /** Whether all is well so far and so many TICKS more can stand; the number read last tells them. */
        private boolean hasRoom(Text text, int more) {
            if (text.isGood() && ticks + more > MOST_TICKS) {
                text.failAtLastDigit();
            }
            return text.isGood();
        }

        void addSteps(int push, int each, int sway, int times) {
            for (int t = 0; t < times; t++) {
                int side = steps % 2 == 0 ? sway : -sway;
                for (int i = 0; i < each; i++) {
                    addTick(i < each / 2 ? push : -push, side, steps);
                }
                steps++;
            }
        }

        void addTick(int pushAlong, int pushAcross, int ofStep) {
            if (ticks >= MOST_TICKS) {
                return;
            }
            along[ticks] = pushAlong;
            across[ticks] = pushAcross;
            wander[ticks] = wanderNow;
            step[ticks] = ofStep;
            ticks++;
        }

        int stepAt(int tick) {
            return isIn(tick, 0, ticks - 1) ? step[tick] : NONE;
        }

        int sizes(int[] pushes) {
            int sum = 0;
            for (int i = 0; i < ticks && i < pushes.length; i++) {
                sum += Math.abs(pushes[i]);
            }
            return sum;
        }
    }

    /** A LAW, its things and signs in the order in which they are worked out (each thing ahead of its sign). */
    private static final class Law {
        private static final int PLUS = -1;
        private static final int MINUS = -2;
        private static final int TIMES = -3;
        private static final int BY = -4;
        private static final int NEGATE = -5;
        private static final int PUSH = -6;
        private static final int SLOPE = -7;
        private static final int TICK = -8;
        private static final int LAYERS = -9;
        private static final int HEIGHT = -10;

        private final int[] code = new int[MOST_LAW_SIGNS];
        private final int[] stack = new int[MOST_LAW_SIGNS];
        int size = 0;

        void read(Text text) {
            size = 0;
            if (text.begin(MOST_LAW_SIGNS)) {
                readSum(text, 0);
            }
        }

        private void readSum(Text text, int depth) {
            readProduct(text, depth);
            for (int i = 0; i < MOST_LAW_SIGNS && text.isGood(); i++) {
                if (text.skip('+')) {
                    readProduct(text, depth);
                    emit(PLUS);
                } else if (text.skip('-')) {
                    readProduct(text, depth);
                    emit(MINUS);
                } else {
                    return;
                }
            }
        }

        private void readProduct(Text text, int depth) {
            readThing(text, depth);
            for (int i = 0; i < MOST_LAW_SIGNS && text.isGood(); i++) {
                if (text.skip('*')) {
                    readThing(text, depth);
                    emit(TIMES);
                } else if (text.skip('/')) {
                    readThing(text, depth);
                    emit(BY);
                } else {
                    return;
                }
            }
        }

        private void readThing(Text text, int depth) {
            boolean negative = false;
            for (int i = 0; i < MOST_LAW_SIGNS && text.skip('-'); i++) {
                negative = !negative;
            }
            if (text.isAtDigit()) {
                emit(text.number(0, 999));
            } else if (depth < MOST_BRACKETS && text.skip('(')) {
                readSum(text, depth + 1);
                text.need(')');
            } else {
                readName(text);
            }
            if (negative) {
                emit(NEGATE);
            }
        }

        private void readName(Text text) {
            if (text.skip('p')) {
                emit(PUSH);
            } else if (text.skip('s')) {
                emit(SLOPE);
            } else if (text.skip('t')) {
                emit(TICK);
            } else if (text.skip('f')) {
                emit(LAYERS);
            } else if (text.skip('h')) {
                emit(HEIGHT);
            } else {
                text.failHere();
            }
        }

        private void emit(int thing) {
            if (size < code.length) {
                code[size] = thing;
                size++;
            }
        }

        /** The PUSH that it gives, put to its bounds. */
        int bounded(int push, int slope, int tick, int foam, int height) {
            int top = 0;
            for (int i = 0; i < size && i < code.length; i++) {
                int thing = code[i];
                if (thing == NEGATE && top >= 1) {
                    stack[top - 1] = -stack[top - 1];
                } else if (isIn(thing, BY, PLUS) && top >= 2) {
                    top--;
                    stack[top - 1] = joined(thing, stack[top - 1], stack[top]);
                } else if (top < stack.length) {
                    stack[top] = thing >= 0 ? thing : named(thing, push, slope, tick, foam, height);
                    top++;
                }
            }
            return top > 0 ? between(stack[top - 1], -MOST_PUSH, MOST_PUSH) : 0;
        }

        private static int joined(int sign, int one, int other) {
            switch (sign) {
                case PLUS:
                    return one + other;
                case MINUS:
                    return one - other;
                case TIMES:
                    return one * other;
                default:
                    return other == 0 ? 0 : one / other;
            }
        }

        private static int named(int name, int push, int slope, int tick, int foam, int height) {
            switch (name) {
                case PUSH:
                    return push;
                case SLOPE:
                    return slope;
                case TICK:
                    return tick;
                case LAYERS:
                    return foam;
                default:
                    return height;
            }
        }
    }

    /** How it would be: a cup of its own, so that THE STATE and R stay as they are. */
    private static final class Trial {
        final Cup cup = new Cup();
        Law law = null;
        private final State state = new State();
        private boolean stopsAtSpill = false;
        int spilt = 0;
        int firstTick = NONE;
        int greatest = 0;
        int greatestSlope = 0;
        final int[] spillTicks = new int[MOST_TICKS + LATER];
        int spillCount = 0;
        private final int[] firsts = new int[MOST_TICKS];
        private final int[] slopes = new int[LONGEST_SWING + 1];

        private void begin(int seed) {
            state.freshen(cup);
            state.drawn = seed;
            stopsAtSpill = false;
            spilt = 0;
            firstTick = NONE;
            greatest = 0;
            greatestSlope = 0;
            spillCount = 0;
        }

        int spiltOn(Walk walk, int seed) {
            begin(seed);
            through(walk, 0, walk.ticks, false);
            return spilt;
        }

        /** Whether nothing would be SPILT, R 1. */
        boolean keepsAll(Walk walk) {
            begin(1);
            stopsAtSpill = true;
            through(walk, 0, walk.ticks, false);
            return spilt == 0;
        }

        int spiltFrom(Walk walk, int from) {
            begin(1);
            through(walk, from, walk.ticks, false);
            return spilt;
        }

        int spiltWithTurn(Walk walk, int at) {
            begin(1);
            through(walk, 0, at, false);
            through(walk, at, walk.ticks, true);
            return spilt;
        }

        int spiltWithPause(Walk walk, int at, int ticks) {
            begin(1);
            through(walk, 0, at, false);
            for (int i = 0; i < ticks; i++) {
                note(state.pass(cup, 0, 0));
            }
            through(walk, at, walk.ticks, false);
            return spilt;
        }

        private void through(Walk walk, int from, int to, boolean turned) {
            int end = Math.min(to, walk.ticks);
            for (int i = Math.max(0, from); i < end; i++) {
                note(state.carry(cup, law, walk, i, turned));
                if (stopsAtSpill && spilt > 0) {
                    return;
                }
            }
        }

        private void note(int over) {
            spilt += over;
            if (over > 0 && firstTick == NONE) {
                firstTick = state.tick - 1;
            }
            if (over > 0 && spillCount < spillTicks.length) {
                spillTicks[spillCount] = state.tick - 1;
                spillCount++;
            }
            int higher = Math.max(state.along.higherEnd(cup), state.across.higherEnd(cup));
            greatest = Math.max(greatest, higher);
            greatestSlope = Math.max(greatestSlope, Math.abs(state.along.slope(cup)));
        }

        /** SLOPES ALONG behind 0 .. n TICKS, tilted so at first and let go. */
        int[] letGo(int tilt, int n) {
            state.freshen(cup);
            state.along.lean(cup, tilt);
            slopes[0] = state.along.slope(cup);
            for (int i = 1; i <= n && i < slopes.length; i++) {
                state.pass(cup, 0, 0);
                slopes[i] = state.along.slope(cup);
            }
            return slopes;
        }

        void clearFirsts() {
            Arrays.fill(firsts, 0);
        }

        void countFirst(int step) {
            if (isIn(step, 0, firsts.length - 1)) {
                firsts[step]++;
            }
        }

        int mostOftenFirst() {
            int step = NONE;
            int most = 0;
            for (int i = 0; i < firsts.length; i++) {
                if (firsts[i] > most) {
                    most = firsts[i];
                    step = i;
                }
            }
            return step;
        }
    }

    /** Rows of WALKS, each carried from where the one ahead of it ends, and the soonest that leads far enough. */
    private static final class Planner {
        private final Cup cup = new Cup();
        private Law law = null;
        private final State[] states = new State[WALKS + 1];
        private final int[] chosen = new int[WALKS];
        int goal = 0;
        final int[] best = new int[WALKS];
        int bestLength = 0;
        int bestTicks = 0;

        Planner() {
            for (int i = 0; i < states.length; i++) {
                states[i] = new State();
            }
        }

        void begin(Cup from, Law by, int metres) {
            cup.copy(from);
            law = by;
            goal = metres;
            bestLength = 0;
            bestTicks = Integer.MAX_VALUE;
            states[0].freshen(cup);
            states[0].drawn = 1;
        }

        /** Whether a WALK behind the first so many spills nothing. */
        boolean carries(int length, Walk walk) {
            if (!isIn(length, 0, WALKS - 1)) {
                return false;
            }
            State next = states[length + 1];
            next.copy(states[length]);
            for (int i = 0; i < walk.ticks; i++) {
                if (next.carry(cup, law, walk, i, false) > 0) {
                    return false;
                }
            }
            return true;
        }

        void choose(int place, int walk) {
            if (isIn(place, 0, WALKS - 1)) {
                chosen[place] = walk;
            }
        }

        void noteBest(int length, int ticks) {
            bestLength = length;
            bestTicks = ticks;
            System.arraycopy(chosen, 0, best, 0, chosen.length);
        }
    }

    /** Films of a hand. */
    private static final class Films {
        private final int[] push = new int[MOST_FILMS];
        private final int[] slope = new int[MOST_FILMS];
        private final int[] tick = new int[MOST_FILMS];
        private final int[] given = new int[MOST_FILMS];
        int count = 0;

        boolean add(int pushed, int seen, int at, int gave) {
            if (count >= MOST_FILMS) {
                return false;
            }
            push[count] = pushed;
            slope[count] = seen;
            tick[count] = at;
            given[count] = gave;
            count++;
            return true;
        }

        int offByLaw(int i, Law law, Cup cup) {
            int by = law.bounded(push[i], slope[i], tick[i], cup.settings[FOAM], cup.fill);
            return Math.abs(by - given[i]);
        }

        /** How far off p * a / 10 - s * b / 10 is in sum over all films. */
        int offByTenths(int a, int b) {
            int sum = 0;
            for (int i = 0; i < count; i++) {
                int by = between(push[i] * a / 10 - slope[i] * b / 10, -MOST_PUSH, MOST_PUSH);
                sum += Math.abs(by - given[i]);
            }
            return sum;
        }
    }
}
