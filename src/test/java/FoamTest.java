/** Promises 27 to 31: foam, walls, lids. */
public final class FoamTest {
    private static final Due DUE = new Due();

    public static void main(String[] args) {
        layers();
        off();
        few();
        best();
        lid();
        DUE.end();
    }

    private static void layers() {
        int[] found = new int[11];
        for (int k = 0; k < 30; k++) {
            for (String walk : Carry.WALKS) {
                int want = -2;
                for (int foam = 9; foam >= 0; foam--) {
                    Carry c = Carry.some(k);
                    c.settings[2] = foam;
                    want = c.run(walk).spilt == 0 ? foam : want;
                }
                found[want < 0 ? 10 : want]++;
                CoffeeThatSlops x = Carry.some(k).make();
                Spell.walk(x, 0, walk);
                DUE.is("layers, cup " + k + ", " + walk, x.layers(0), want);
                DUE.is("FOAM stays", x.set(2, 0), Carry.some(k).settings[2]);
                DUE.is("layers() tells no ROW", x.count(7), 0);
            }
        }
        CoffeeThatSlops y = Carry.of(new int[] {18, 93, 60}, 0, 100, 11, 1, 0, 5).make();
        Spell.walk(y, 0, "g27,29,1*3");
        DUE.is("nine do", y.layers(0), 9);
        DUE.is("some layers do, some do not", found[0] > 0 && found[1] + found[2] + found[3] > 0 && found[10] > 0, true);
        CoffeeThatSlops x = new CoffeeThatSlops();
        DUE.is("layers(-1)", x.layers(-1), -1);
        DUE.is("layers(4)", x.layers(4), -1);
        DUE.is("no TICKS", x.layers(0), 0);
    }

    private static void off() {
        int below = 0;
        for (int k = 0; k < 30; k++) {
            int tilt = 1 + k * 61 % 500;
            int n = k < 4 ? k + 1 : 1 + k * 97 % 400;
            int foam = k % 10;
            Carry c = Carry.some(k);
            int with = lateSlope(c, tilt, n, foam);
            int without = lateSlope(c, tilt, n, 0);
            int upper = without == 0 ? 0 : without - with;
            int lower = without == 0 || upper == 0 ? 1 : without;
            for (int d = Math.abs(upper); d > 1; d--) {
                if (upper % d == 0 && lower % d == 0) {
                    upper /= d;
                    lower /= d;
                }
            }
            below += upper < 0 ? 1 : 0;
            CoffeeThatSlops x = c.make();
            DUE.is("off", x.off(tilt, n, foam), 0);
            DUE.row("off(" + tilt + ", " + n + ", " + foam + "), cup " + k, x, with, without, upper, lower);
        }
        CoffeeThatSlops x = new CoffeeThatSlops();
        x.cup(2, 100, 50);
        x.set(1, 20);
        x.off(2, 20, 3);
        DUE.row("none left with none: 0 by 1", x, 4, 0, 0, 1);
        x.sheet(2, 1, 0, 0);
        x.set(2, 7);
        DUE.is("off, a wall", x.off(10, 1, 0), 0);
        DUE.row("off, a wall", x, 20, 20, 0, 1);
        DUE.is("FOAM stays", x.set(2, 0), 7);
        int[][] wrong = {{0, 1, 1}, {501, 1, 1}, {1, 0, 1}, {1, 401, 1}, {1, 1, -1}, {1, 1, 10}};
        for (int[] w : wrong) {
            DUE.is("off refused", x.off(w[0], w[1], w[2]), -1);
        }
        DUE.row("off refused", x, 20, 20, 0, 1);
    }

    private static int lateSlope(Carry like, int tilt, int n, int foam) {
        Carry c = new Carry().like(like);
        c.settings[2] = foam;
        CoffeeThatSlops x = c.make();
        x.tilt(0, tilt);
        int greatest = 0;
        for (int i = 1; i <= n; i++) {
            x.tick(0, 0);
            greatest = i >= n / 2 ? Math.max(greatest, Math.abs(x.of(0, 0))) : 0;
        }
        return greatest;
    }

    private static void few() {
        int[] found = new int[4];
        for (int k = 0; k < 30; k++) {
            for (int w = 0; w < Carry.WALKS.length; w++) {
                Carry c = Carry.some(k);
                c.fill = c.rim * (60 + k * 7 % 38) / 100;
                int hole = k * 31 % 100;
                CoffeeThatSlops x = c.make();
                x.steps(1);
                Spell.walk(x, 0, Carry.WALKS[w]);
                int got = x.few(0, hole);
                long[] row = fewest(c, Carry.WALKS[w], hole);
                DUE.is("few, cup " + k + ", " + Carry.WALKS[w] + ", " + hole, got, row == null ? -2 : row.length);
                DUE.row("few, cup " + k, x, row == null ? new long[] {0, 0, 0} : row);
                found[row == null ? 3 : row.length]++;
                DUE.is("walls stay", x.count(9), c.holes[0] < 100 ? 1 : 0);
            }
        }
        DUE.is("all sorts are found", found[0] > 0 && found[1] > 0 && found[2] > 0 && found[3] > 0, true);
        CoffeeThatSlops x = new CoffeeThatSlops();
        int[][] wrong = {{-1, 5}, {4, 5}, {0, -1}, {0, 100}};
        for (int[] w : wrong) {
            DUE.is("few refused", x.few(w[0], w[1]), -1);
        }
        x.steps(0);
        DUE.is("few, none", x.few(0, 99), 0);
        DUE.row("few, none", x);
    }

    private static long[] fewest(Carry like, String walk, int hole) {
        if (does(like, walk, hole)) {
            return new long[0];
        }
        for (int gap = 0; gap < like.cells - 1; gap++) {
            if (like.holes[gap] == 100 && does(like, walk, hole, gap)) {
                return new long[] {gap};
            }
        }
        for (int one = 0; one < like.cells - 1; one++) {
            for (int other = one + 1; other < like.cells - 1; other++) {
                if (like.holes[one] == 100 && like.holes[other] == 100 && does(like, walk, hole, one, other)) {
                    return new long[] {one, other};
                }
            }
        }
        return null;
    }

    private static boolean does(Carry like, String walk, int hole, int... gaps) {
        Carry c = new Carry().like(like);
        for (int gap : gaps) {
            c.holes[gap] = hole;
        }
        return c.run(walk).spilt == 0;
    }

    private static void best() {
        int between = 0;
        for (int k = 0; k < 12; k++) {
            String walk = Carry.WALKS[k % Carry.WALKS.length];
            Carry like = Carry.some(k);
            int gap = k % (like.cells - 1);
            int want = -1;
            int least = Integer.MAX_VALUE;
            for (int hole = 0; hole <= 100; hole++) {
                Carry c = new Carry().like(like);
                c.holes[gap] = hole;
                c.run(walk);
                if (c.greatest <= least) {
                    least = c.greatest;
                    want = hole;
                }
            }
            between += want > 0 && want < 100 ? 1 : 0;
            CoffeeThatSlops x = like.make();
            Spell.walk(x, 0, walk);
            DUE.is("best, cup " + k, x.best(0, gap), want);
            DUE.row("best, cup " + k, x, least);
            DUE.is("the wall stays", x.wall(gap, 100), like.holes[gap]);
        }
        DUE.is("some HOLE between", between > 0, true);
        CoffeeThatSlops x = new CoffeeThatSlops();
        int[][] wrong = {{-1, 0}, {4, 0}, {0, -1}, {0, 7}};
        for (int[] w : wrong) {
            DUE.is("best refused", x.best(w[0], w[1]), -1);
        }
        // the wall keeps the last CELL at its FILL; any HOLE lets it rise above
        CoffeeThatSlops y = Carry.of(new int[] {20, 999, 999}, 0, 100, 16, 0, 0, 6).make();
        y.set(4, 100);
        Spell.law(y, 0, "500");
        y.set(6, 0);
        Spell.walk(y, 0, "s12");
        DUE.is("no HOLE is best", y.best(0, 18), 0);
        DUE.row("no HOLE is best", y, 999);
        DUE.is("no TICKS", x.best(0, 6), 100);
        DUE.row("no TICKS", x, 0);
    }

    private static void lid() {
        int between = 0;
        for (int k = 0; k < 24; k++) {
            for (String walk : Carry.WALKS) {
                int most = k % 4 * 9;
                int want = -2;
                for (int lid = 100; lid >= 0; lid -= 1) {
                    Carry c = Carry.some(k);
                    c.settings[4] = lid;
                    want = c.run(walk).spilt <= most ? lid : want;
                }
                between += want > 0 && want < 100 ? 1 : 0;
                CoffeeThatSlops x = Carry.some(k).make();
                Spell.walk(x, 0, walk);
                DUE.is("lid, cup " + k + ", " + walk, x.lid(0, most), want);
                DUE.is("LID stays", x.set(4, 0), Carry.some(k).settings[4]);
                DUE.is("lid() tells no ROW", x.count(7), 0);
            }
        }
        DUE.is("some LID between", between > 0, true);
        CoffeeThatSlops y = Carry.of(new int[] {16, 162, 82}, 0, 100, 1, 4, 0, 3).make();
        Spell.walk(y, 0, "g26,8,60*9");
        y.set(4, 99);
        int most = y.would(0, 1) - 1;
        DUE.is("all LIDS but the last spill more", most >= 0, true);
        DUE.is("the last LID", y.lid(0, most), 100);
        CoffeeThatSlops x = new CoffeeThatSlops();
        int[][] wrong = {{-1, 0}, {4, 0}, {0, -1}, {0, 10000}};
        for (int[] w : wrong) {
            DUE.is("lid refused", x.lid(w[0], w[1]), -1);
        }
        DUE.is("no TICKS", x.lid(0, 9999), 0);
    }
}
