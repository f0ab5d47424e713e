/** Promises 46 to 50: what is kept, counted and told. */
public final class KeptTest {
    private static final Due DUE = new Due();

    public static void main(String[] args) {
        seed();
        keepAndAgain();
        cupForgets();
        counts();
        rows();
        DUE.end();
    }

    private static void seed() {
        CoffeeThatSlops x = new CoffeeThatSlops();
        DUE.is("seed", x.seed(Integer.MIN_VALUE), 1);
        DUE.is("seed", x.seed(-1), Integer.MIN_VALUE);
        x.fresh();
        x.cup(3, 9, 9);
        DUE.is("seed stays", x.seed(0), -1);
        Spell.walk(x, 0, "w1;s2");
        x.go(0, 0, 1);
        DUE.is("one DRAW", x.seed(0), 12345);
        x.go(0, 0, 2);
        DUE.is("two DRAWS", x.seed(0), 12345 * 1103515245 + 12345);
    }

    private static void keepAndAgain() {
        CoffeeThatSlops x = Spell.cup(5, 100, 80, "w5;g90,4,60*4");
        DUE.is("keep(-1)", x.keep(-1), false);
        DUE.is("keep(3)", x.keep(3), false);
        for (int i = -1; i <= 3; i++) {
            DUE.is("nothing kept", x.again(i), false);
        }
        Spell.law(x, 0, "s");
        x.go(0, 0, 7);
        DUE.is("keep", x.keep(1), true);
        DUE.is("nothing kept", x.again(0), false);
        DUE.is("nothing kept", x.again(2), false);
        long[] was = all(x);
        x.go(0, 7, 9);
        DUE.is("keep", x.keep(2), true);
        long[] then = all(x);
        x.set(1, 9);
        x.spot(4);
        DUE.is("again", x.again(1), true);
        same("again", was, all(x));
        DUE.is("settings stay", x.set(1, 2), 9);
        DUE.is("spots stay", x.count(5), 1);
        x.go(0, 7, 9);
        same("the same comes again", then, all(x));
        x.fresh();
        DUE.is("again", x.again(2), true);
        same("again, the other", then, all(x));
        x.again(1);
        same("again, more than once", was, all(x));
        x.keep(2);
        x.tick(100, 100);
        x.again(2);
        same("kept over another", was, all(x));
    }

    private static void cupForgets() {
        CoffeeThatSlops x = new CoffeeThatSlops();
        for (int i = 0; i < 3; i++) {
            x.tick(50, 50);
            x.keep(i);
        }
        DUE.is("refused cup()", x.cup(1, 1, 1), false);
        DUE.is("again", x.again(0) && x.count(3) == 1, true);
        x.fresh();
        DUE.is("again", x.again(2) && x.count(3) == 3, true);
        x.cup(8, 100, 80);
        for (int i = 0; i < 3; i++) {
            DUE.is("cup() was taken since", x.again(i), false);
        }
        DUE.is("FRESH", x.count(3), 0);
        x.keep(1);
        DUE.is("kept anew", x.again(1), true);
        DUE.is("not kept anew", x.again(0), false);
    }

    private static void counts() {
        CoffeeThatSlops x = new CoffeeThatSlops();
        x.cup(12, 345, 67);
        x.tick(0, 0);
        x.tick(0, 0);
        Spell.law(x, 0, "1");
        Spell.law(x, 2, "1");
        x.spot(1);
        x.spot(1);
        x.spot(1);
        x.film(0, 0, 0, 0);
        x.sign(0);
        x.wall(0, 99);
        x.wall(10, 0);
        x.wall(5, 100);
        x.steps(0);
        long[] want = {12, 345, 67, 2, 5, 3, 1, 3, 4, 2};
        for (int what = 0; what < want.length; what++) {
            DUE.is("count(" + what + ")", x.count(what), want[what]);
        }
        DUE.is("count(-1)", x.count(-1), -1);
        DUE.is("count(10)", x.count(10), -1);
    }

    private static void rows() {
        CoffeeThatSlops x = new CoffeeThatSlops();
        DUE.row("none told", x);
        Spell.walk(x, 0, "g10,4,5*2");
        x.steps(0);
        DUE.row("steps", x, 8, 80, 40);
        x.would(0, 1);
        DUE.is("would tells three", x.count(7), 3);
        x.turn(0, 0);
        DUE.is("turn tells one", x.count(7), 1);
        x.two(0);
        DUE.is("two tells two", x.count(7), 2);
        x.off(9, 9, 9);
        DUE.is("off tells four", x.count(7), 4);
        x.few(1, 0);
        DUE.row("few tells none", x);
        x.steps(0);
        x.tick(1, 1);
        x.fresh();
        x.cup(9, 99, 9);
        x.dies(9, 9);
        x.full(0);
        x.layers(0);
        x.lid(0, 0);
        x.form(1);
        x.far(0, 3);
        x.stir(0);
        x.seed(3);
        x.keep(0);
        x.again(0);
        x.go(0, 0, 5);
        x.plan(5);
        x.reads();
        DUE.row("these tell none", x, 8, 80, 40);
        DUE.noSuch("row(3)", () -> x.row(3));
        DUE.noSuch("row(least)", () -> x.row(Integer.MIN_VALUE));
        DUE.noSuch("row(most)", () -> x.row(Integer.MAX_VALUE));
    }

    private static long[] all(CoffeeThatSlops x) {
        long[] all = new long[60];
        int n = 0;
        for (int row = 0; row < 2; row++) {
            for (int c = 0; c < 5; c++) {
                all[n++] = x.cell(row, c, 0);
                all[n++] = x.cell(row, c, 1);
            }
            all[n++] = x.of(row, 1);
        }
        all[n++] = x.count(3);
        int r = x.seed(0);
        x.seed(r);
        all[n++] = r;
        for (int late = 0; late <= 20; late++) {
            int was = x.set(5, late);
            all[n++] = x.gives(0, 0);
            x.set(5, was);
        }
        return all;
    }

    private static void same(String call, long[] want, long[] got) {
        for (int i = 0; i < want.length; i++) {
            DUE.is(call + ", thing " + i, got[i], want[i]);
        }
    }
}
