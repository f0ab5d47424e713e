import java.util.ArrayList;
import java.util.List;

/** Promises 21 to 26: what spills. */
public final class SpillTest {
    private static final Due DUE = new Due();

    public static void main(String[] args) {
        would();
        wouldByHandOfTests();
        odds();
        full();
        leads();
        plan();
        planChecks();
        helps();
        DUE.end();
    }

    private static void would() {
        for (int k = 0; k < 24; k++) {
            for (String walk : Carry.WALKS) {
                Carry c = Carry.some(k);
                c.seed = k * 7919 - 50;
                c.run(walk);
                CoffeeThatSlops x = c.make();
                Spell.walk(x, 2, walk);
                x.tick(300, 300);
                int tick = x.cell(0, 0, 0);
                DUE.is("would, cup " + k + ", " + walk, x.would(2, c.seed), c.spilt);
                int step = c.firstTick < 0 ? -1 : Carry.ticks(walk).get(c.firstTick)[3];
                DUE.row("would, cup " + k + ", " + walk, x, c.firstTick, step, c.greatest);
                DUE.is("THE STATE is as it was", x.cell(0, 0, 0) == tick && x.count(3) == 1, true);
                DUE.is("R is as it was", x.seed(1), 1);
            }
        }
    }

    private static void wouldByHandOfTests() {
        CoffeeThatSlops x = Spell.cup(2, 100, 80, "s2;g200,2,0*2");
        x.set(1, 0);
        x.set(0, 1);
        // 200 by 8 is 25: at the 3rd TICK 105 of 100
        DUE.is("would", x.would(0, 1) >= 5, true);
        DUE.is("first TICK", x.row(0), 2);
        DUE.is("first STEP", x.row(1), 0);
        Spell.walk(x, 0, "s2;j200");
        DUE.is("would", x.would(0, 1), 5);
        DUE.row("a TICK of no STEP", x, 2, -1, 100);
        Spell.walk(x, 0, "");
        DUE.is("would", x.would(0, 1), 0);
        DUE.row("without TICKS", x, -1, -1, 0);
        Spell.walk(x, 0, "s1");
        x.would(0, 1);
        DUE.row("nothing spilt", x, -1, -1, 80);
        DUE.is("would(4)", x.would(4, 1), -1);
        DUE.is("would(-1)", x.would(-1, 1), -1);
        DUE.row("refused", x, -1, -1, 80);
    }

    private static void odds() {
        int steps = 0;
        for (int k = 0; k < 16; k++) {
            for (String walk : Carry.WALKS) {
                int n = 1 + k * 7 % 20;
                int ways = 0;
                int[] first = new int[1001];
                for (int seed = 1; seed <= n; seed++) {
                    Carry c = Carry.some(k);
                    c.seed = seed;
                    c.run(walk);
                    ways += c.spilt > 0 ? 1 : 0;
                    if (c.spilt > 0) {
                        first[Carry.ticks(walk).get(c.firstTick)[3] + 1]++;
                    }
                }
                int best = -1;
                int most = 0;
                for (int step = 0; step < 1000; step++) {
                    if (first[step + 1] > most) {
                        most = first[step + 1];
                        best = step;
                    }
                }
                steps += best > 0 ? 1 : 0;
                int common = 1;
                for (int d = 1; d <= n; d++) {
                    common = ways % d == 0 && n % d == 0 ? d : common;
                }
                CoffeeThatSlops x = Carry.some(k).make();
                Spell.walk(x, 1, walk);
                x.seed(-8);
                DUE.is("odds", x.odds(1, n), 0);
                DUE.row("odds, cup " + k + ", " + walk + ", " + n, x, ways / common, n / common, best);
                DUE.is("R is as it was", x.seed(1), -8);
            }
        }
        DUE.is("some spill first in a later STEP", steps > 0, true);
        CoffeeThatSlops x = new CoffeeThatSlops();
        int[][] wrong = {{-1, 5}, {4, 5}, {0, 0}, {0, 21}};
        for (int[] w : wrong) {
            DUE.is("odds refused", x.odds(w[0], w[1]), -1);
        }
        DUE.is("odds, no TICKS", x.odds(0, 20), 0);
        DUE.row("odds, no TICKS", x, 0, 1, -1);
    }

    private static void full() {
        for (int k = 0; k < 24; k++) {
            for (String walk : Carry.WALKS) {
                int want = -2;
                for (int part = 0; part <= 20; part++) {
                    Carry c = Carry.some(k);
                    c.fill = c.rim * part / 20;
                    want = c.run(walk).spilt == 0 ? c.fill : want;
                }
                CoffeeThatSlops x = Carry.some(k).make();
                Spell.walk(x, 0, walk);
                DUE.is("full, cup " + k + ", " + walk, x.full(0), want);
                DUE.is("FILL stays", x.count(2), Carry.some(k).fill);
                DUE.is("full() tells no ROW", x.count(7), 0);
            }
        }
        CoffeeThatSlops x = new CoffeeThatSlops();
        DUE.is("full, no TICKS", x.full(0), 100);
        DUE.is("full(4)", x.full(4), -1);
        DUE.is("full(-1)", x.full(-1), -1);
    }

    private static void leads() {
        CoffeeThatSlops x = new CoffeeThatSlops();
        DUE.is("leads", x.leads(3, 99), 0);
        DUE.is("leads", x.leads(3, 0), 99);
        DUE.is("leads", x.leads(3, 5), 0);
        DUE.is("leads refused", x.leads(3, 100), -1);
        DUE.is("leads refused", x.leads(3, -1), -1);
        DUE.is("leads refused", x.leads(4, 1), -1);
        DUE.is("leads refused", x.leads(-1, 1), -1);
        Spell.walk(x, 3, "s9");
        DUE.is("a WALK told anew leads as far", x.leads(3, 5), 5);
    }

    private static void planChecks() {
        CoffeeThatSlops x = new CoffeeThatSlops();
        DUE.is("plan refused", x.plan(0), -1);
        DUE.is("plan refused", x.plan(401), -1);
        x.steps(0);
        DUE.is("nothing leads", x.plan(1), -2);
        DUE.row("-2 leaves the ROW", x, 0, 0, 0);
        Spell.walk(x, 0, "s9");
        Spell.walk(x, 1, "s4");
        Spell.walk(x, 2, "s4");
        Spell.walk(x, 3, "s1");
        x.leads(0, 10);
        x.leads(1, 5);
        x.leads(2, 5);
        DUE.is("plan", x.plan(10), 8);
        DUE.row("of equal ones the least", x, 1, 1);
        DUE.is("plan", x.plan(15), 12);
        DUE.row("three", x, 1, 1, 1);
        DUE.is("plan", x.plan(20), 16);
        DUE.row("four", x, 1, 1, 1, 1);
        DUE.is("plan", x.plan(25), 9 + 12);
        DUE.row("the least row", x, 0, 1, 1, 1);
        DUE.is("plan", x.plan(40), 36);
        DUE.is("too far", x.plan(41), -2);
        DUE.row("-2 leaves the ROW", x, 0, 0, 0, 0);
        Spell.walk(x, 3, "");
        x.leads(3, 1);
        DUE.is("a WALK without TICKS", x.plan(1), 0);
        DUE.row("a WALK without TICKS", x, 3);
        DUE.is("needless ones", x.plan(5), 4);
        DUE.row("one that leads more", x, 1);
        DUE.is("plan", x.plan(6), 4);
        DUE.row("of equal ones the least, a shorter one first", x, 1, 3);
        x.leads(1, 6);
        DUE.is("plan", x.plan(6), 4);
        DUE.row("the last one is not needless", x, 1);
    }

    private static void plan() {
        int found = 0;
        int[] lengths = new int[5];
        for (int k = 0; k < 40; k++) {
            Carry c = Carry.some(k);
            c.fill = c.rim * (40 + k * 11 % 50) / 100;
            String[] walks = new String[4];
            int[] metres = new int[4];
            CoffeeThatSlops x = c.make();
            for (int i = 0; i < 4; i++) {
                walks[i] = Carry.WALKS[(k + i * i) % Carry.WALKS.length];
                metres[i] = (k * 13 + i * 29) % 31 % 14;
                Spell.walk(x, i, walks[i]);
                x.leads(i, metres[i]);
            }
            int goal = 1 + k * 17 % 45;
            List<Integer> best = new ArrayList<>();
            int ticks = soonest(c, walks, metres, goal, new ArrayList<>(), best);
            DUE.is("plan, cup " + k, x.plan(goal), ticks);
            if (ticks >= 0) {
                found++;
                lengths[best.size()]++;
                DUE.row("plan, cup " + k, x, best.stream().mapToLong(Integer::longValue).toArray());
            }
        }
        DUE.is("some plans are there, some not", found > 10 && found < 38, true);
        DUE.is("plans of several lengths", lengths[1] > 0 && lengths[2] > 0 && lengths[3] + lengths[4] > 0, true);
    }

    /** All rows behind one that begins so: the fewest TICKS (-2: none), the row in best. */
    private static int soonest(Carry c, String[] walks, int[] metres, int goal, List<Integer> row, List<Integer> best) {
        int led = 0;
        List<int[]> ticks = new ArrayList<>();
        for (int i : row) {
            led += metres[i];
            ticks.addAll(Carry.ticks(walks[i]).stream().map(int[]::clone).toList());
        }
        if (led >= goal) {
            best.clear();
            best.addAll(row);
            return c.run(ticks, Integer.MAX_VALUE).spilt == 0 ? ticks.size() : -2;
        }
        int least = -2;
        List<Integer> leastRow = new ArrayList<>();
        for (int i = 0; i < 4 && row.size() < 4; i++) {
            if (metres[i] > 0) {
                List<Integer> further = new ArrayList<>(row);
                further.add(i);
                List<Integer> found = new ArrayList<>();
                int t = soonest(c, walks, metres, goal, further, found);
                if (t >= 0 && (least < 0 || t < least)) {
                    least = t;
                    leastRow = found;
                }
            }
        }
        best.clear();
        best.addAll(leastRow);
        return least;
    }

    private static void helps() {
        int some = 0;
        for (int k = 0; k < 16; k++) {
            for (String walk : Carry.WALKS) {
                Carry c = Carry.some(k);
                c.settings[6] = 3;
                int without = c.run(walk).spilt;
                int bits = 0;
                int least = Integer.MAX_VALUE;
                int first = -1;
                for (int late = 20; late >= 0; late--) {
                    c.settings[6] = k % 3 == 1 ? 2 : 0;
                    c.settings[5] = late;
                    int with = c.run(walk).spilt;
                    bits |= with < without ? 1 << late : 0;
                    if (with <= least) {
                        least = with;
                        first = late;
                    }
                }
                some += bits != 0 && bits != (1 << 21) - 1 ? 1 : 0;
                CoffeeThatSlops x = Carry.some(k).make();
                Spell.walk(x, 3, walk);
                DUE.is("helps, cup " + k + ", " + walk, x.helps(3, k % 3 == 1 ? 2 : 0), bits);
                DUE.row("helps, cup " + k + ", " + walk, x, without, least, first);
                DUE.is("LATE stays", x.set(5, 0), Carry.some(k).settings[5]);
            }
        }
        DUE.is("it depends on how late", some > 0, true);
        CoffeeThatSlops x = new CoffeeThatSlops();
        Spell.law(x, 1, "p");
        int[][] wrong = {{-1, 1}, {4, 1}, {0, 0}, {0, 3}, {0, -1}};
        for (int[] w : wrong) {
            DUE.is("helps refused", x.helps(w[0], w[1]), -1);
        }
        DUE.is("no TICKS", x.helps(0, 1), 0);
        DUE.row("no TICKS", x, 0, 0, 0);
    }
}
