/** Promises 18 to 20: a cup's own swing. */
public final class SwingTest {
    private static final Due DUE = new Due();

    private interface Make {
        CoffeeThatSlops cup();
    }

    private static final Make[] CUPS = {
        () -> Spell.cup(8, 100, 80, ""),
        () -> Spell.cup(2, 100, 50, ""),
        () -> set(Spell.cup(2, 200, 100, ""), 1, 0),
        () -> set(Spell.cup(20, 999, 500, ""), 1, 0),
        () -> set(set(Spell.cup(5, 300, 90, ""), 0, 16), 2, 1),
        () -> set(Spell.cup(3, 50, 40, ""), 1, 50),
        () -> set(Spell.cup(3, 50, 40, ""), 4, 100),
        () -> walled(Spell.cup(4, 100, 60, ""), 1, 30),
        () -> walled(Spell.cup(4, 100, 60, ""), 0, 0),
        () -> Spell.cup(4, 100, 0, ""),
        () -> Spell.cup(4, 100, 100, "")};

    public static void main(String[] args) {
        swing();
        dies();
        worst();
        swingsLate();
        worstInTheLastSteps();
        leavesAllAsItIs();
        DUE.end();
    }

    private static void swing() {
        int found = 0;
        int none = 0;
        for (Make make : CUPS) {
            for (int tilt : new int[] {1, 7, 30, 120, 500}) {
                int[] slopes = letGo(make.cup(), tilt, 400);
                int want = -2;
                for (int n = 399; n >= 2; n--) {
                    want = slopes[n] > slopes[n - 1] && slopes[n + 1] <= slopes[n] ? n : want;
                }
                CoffeeThatSlops x = make.cup();
                x.steps(0);
                DUE.is("swing(" + tilt + ")", x.swing(tilt), want);
                if (want > 0) {
                    DUE.row("swing", x, slopes[0], slopes[want]);
                    found++;
                } else {
                    DUE.row("swing -2 leaves the ROW", x, 0, 0, 0);
                    none++;
                }
            }
        }
        DUE.is("some swing, some do not", found > 9 && none > 2, true);
        CoffeeThatSlops x = new CoffeeThatSlops();
        DUE.is("swing(0)", x.swing(0), -1);
        DUE.is("swing(501)", x.swing(501), -1);
        DUE.is("swing(-5)", x.swing(-5), -1);
        DUE.is("refused swing() tells nothing", x.count(7), 0);
    }

    private static void dies() {
        int none = 0;
        for (Make make : CUPS) {
            for (int tilt : new int[] {1, 30, 500}) {
                int[] slopes = letGo(make.cup(), tilt, 400);
                for (int part : new int[] {1, 3, 10, 50, 99, 100}) {
                    int want = -2;
                    for (int from = 400; from >= 0; from--) {
                        if (Math.abs(slopes[from]) > slopes[0] * part / 100) {
                            break;
                        }
                        want = from;
                    }
                    none += want == -2 ? 1 : 0;
                    CoffeeThatSlops x = make.cup();
                    x.steps(0);
                    DUE.is("dies(" + tilt + ", " + part + ")", x.dies(tilt, part), want);
                    DUE.row("dies() tells no ROW", x, 0, 0, 0);
                }
            }
        }
        DUE.is("some never die", none > 2, true);
        CoffeeThatSlops x = new CoffeeThatSlops();
        int[][] wrong = {{0, 5}, {501, 5}, {5, 0}, {5, 101}};
        for (int[] w : wrong) {
            DUE.is("dies refused", x.dies(w[0], w[1]), -1);
        }
    }

    private static void worst() {
        for (int k = 0; k < 6; k++) {
            CoffeeThatSlops x = CUPS[k].cup();
            Spell.law(x, 1, "p-s/3+t/9");
            x.set(5, 3);
            x.set(6, k % 2 == 0 ? 3 : 1);
            x.set(4, 7);
            int push = 5 + 39 * k;
            int want = 0;
            int greatest = -1;
            for (int n = 2; n <= 40; n++) {
                CoffeeThatSlops y = CUPS[k].cup();
                Spell.law(y, 1, "p-s/3+t/9");
                y.set(5, 3);
                y.set(6, k % 2 == 0 ? 3 : 1);
                y.set(4, 100);
                Spell.walk(y, 0, "g" + push + "," + n + ",0*20");
                int size = 0;
                for (int t = 0; t < 20 * n; t++) {
                    y.go(0, t, 1);
                    size = Math.max(size, Math.abs(y.of(0, 0)));
                }
                if (size > greatest) {
                    greatest = size;
                    want = n;
                }
            }
            DUE.is("worst(" + push + ")", x.worst(push), want);
            DUE.row("worst", x, greatest);
            DUE.is("LID stays", x.set(4, 7), 7);
        }
        CoffeeThatSlops x = new CoffeeThatSlops();
        DUE.is("worst(0)", x.worst(0), -1);
        DUE.is("worst(201)", x.worst(201), -1);
        x.sheet(2, 7, 0, 0);
        DUE.is("of equal ones the least", x.worst(9), 2);
        DUE.row("of equal ones the least", x, 0);
    }

    private static void swingsLate() {
        CoffeeThatSlops x = Carry.of(new int[] {19, 140, 131}, 0, 100, 1, 3, 1, 1).make();
        DUE.is("the last that counts", x.swing(159), 399);
        int[] slopes = letGo(x, 159, 400);
        x.swing(159);
        DUE.row("the last that counts", x, slopes[0], slopes[399]);
        x = Carry.of(new int[] {18, 18, 10}, 0, 100, 2, 0, 0, 6).make();
        slopes = letGo(x, 77, 401);
        DUE.is("the 400th is one", slopes[400] > slopes[399] && slopes[400] >= slopes[401], true);
        DUE.is("the 400th does not count", x.swing(77), -2);
    }

    private static void worstInTheLastSteps() {
        Carry[] cups = {Carry.of(new int[] {12, 384, 296}, 0, 100, 13, 3, 0, 4),
            Carry.of(new int[] {16, 29, 6}, 0, 100, 8, 5, 0, 0), Carry.of(new int[] {6, 150, 127}, 2, 7, 4, 0, 0, 4),
            Carry.of(new int[] {19, 297, 203}, 16, 16, 2, 1, 0, 3)};
        int[] pushes = {25, 2, 31, 51};
        for (int i = 0; i < cups.length; i++) {
            CoffeeThatSlops x = cups[i].make();
            cups[i].settings[4] = 100;
            int want = 0;
            int greatest = -1;
            for (int n = 2; n <= 40; n++) {
                int size = cups[i].run("g" + pushes[i] + "," + n + ",0*20").greatestSlope;
                want = size > greatest ? n : want;
                greatest = Math.max(size, greatest);
            }
            DUE.is("20 STEPS, cup " + i, x.worst(pushes[i]), want);
            DUE.row("20 STEPS, cup " + i, x, greatest);
        }
    }

    private static void leavesAllAsItIs() {
        CoffeeThatSlops x = Spell.cup(5, 100, 80, "g90,4,50*9");
        x.set(6, 0);
        Spell.law(x, 0, "p*2");
        x.go(0, 0, 11);
        int[] was = {x.cell(0, 0, 0), x.cell(0, 1, 1), x.cell(1, 2, 0), x.count(3), x.of(0, 1), x.of(1, 1)};
        x.swing(400);
        x.dies(400, 5);
        x.worst(77);
        int[] is = {x.cell(0, 0, 0), x.cell(0, 1, 1), x.cell(1, 2, 0), x.count(3), x.of(0, 1), x.of(1, 1)};
        for (int i = 0; i < was.length; i++) {
            DUE.is("THE STATE stays, " + i, is[i], was[i]);
        }
        DUE.is("R stays", x.seed(1), 1);
    }

    private static int[] letGo(CoffeeThatSlops x, int tilt, int n) {
        int[] slopes = new int[n + 1];
        x.fresh();
        x.tilt(0, tilt);
        slopes[0] = x.of(0, 0);
        for (int i = 1; i <= n; i++) {
            x.tick(0, 0);
            slopes[i] = x.of(0, 0);
        }
        return slopes;
    }

    private static CoffeeThatSlops set(CoffeeThatSlops x, int what, int v) {
        x.set(what, v);
        return x;
    }

    private static CoffeeThatSlops walled(CoffeeThatSlops x, int gap, int v) {
        x.wall(gap, v);
        return x;
    }
}
