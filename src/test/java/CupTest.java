/** Promises 1 to 9: the cup. */
public final class CupTest {
    private static final Due DUE = new Due();

    public static void main(String[] args) {
        aNewObject();
        cup();
        set();
        wall();
        sheet();
        fresh();
        tilt();
        tickMoves();
        tickCuts();
        tickDampsAndHoles();
        tickTakesNoMoreThanThereIs();
        tickSpills();
        tickBoundsFlows();
        tickTwoRows();
        cellAndOf();
        DUE.end();
    }

    private static void aNewObject() {
        CoffeeThatSlops x = new CoffeeThatSlops();
        long[] counts = {8, 100, 80, 0, 0, 0, 0, 0, 0, 0, -1};
        for (int what = 0; what < counts.length; what++) {
            DUE.is("new: count(" + what + ")", x.count(what), counts[what]);
        }
        long[] settings = {8, 2, 0, 6, 0, 0, 3};
        for (int what = 0; what < settings.length; what++) {
            DUE.is("new: set(" + what + ")", x.set(what, 1), settings[what]);
        }
        for (int gap = 0; gap < 7; gap++) {
            DUE.is("new: wall(" + gap + ")", x.wall(gap, 0), 100);
        }
        DUE.is("new: seed", x.seed(9), 1);
        for (int walk = 0; walk < 4; walk++) {
            DUE.is("new: leads", x.leads(walk, 1), 0);
            DUE.is("new: steps", x.steps(walk), 0);
        }
        heights("new", x, 0, 80, 80, 80, 80, 80, 80, 80, 80);
        heights("new", x, 1, 80, 80, 80, 80, 80, 80, 80, 80);
        flows("new", x, 0, 0, 0, 0, 0, 0, 0, 0, 0);
    }

    private static void cup() {
        CoffeeThatSlops x = new CoffeeThatSlops();
        x.set(1, 5);
        x.wall(0, 40);
        x.tick(100, 50);
        x.seed(77);
        int[][] refused = {{1, 9, 9}, {21, 9, 9}, {2, 0, 0}, {2, 1000, 9}, {2, 9, -1}, {2, 9, 10}, {-3, 9, 9}};
        for (int[] r : refused) {
            DUE.is("cup refused", x.cup(r[0], r[1], r[2]), false);
        }
        DUE.is("refused cup() leaves the walls", x.count(9), 1);
        DUE.is("refused cup() leaves the TICK", x.count(3), 1);
        DUE.is("cup", x.cup(20, 999, 999), true);
        DUE.is("cup: no WALLS", x.count(9), 0);
        DUE.is("cup: FRESH", x.count(3), 0);
        DUE.is("cup: CELLS", x.count(0), 20);
        DUE.is("cup: RIM", x.count(1), 999);
        DUE.is("cup: FILL", x.count(2), 999);
        DUE.is("cup: full cells", x.of(1, 2), 20 * 999);
        DUE.is("cup: settings stay", x.set(1, 5), 5);
        DUE.is("cup: R stays", x.seed(77), 77);
        DUE.is("cup, least", x.cup(2, 1, 0), true);
        heights("cup, least", x, 0, 0, 0);
    }

    private static void set() {
        CoffeeThatSlops x = new CoffeeThatSlops();
        int[][] bounds = {{1, 16}, {0, 50}, {0, 9}, {0, 20}, {0, 100}, {0, 20}, {0, 3}};
        int[] first = {8, 2, 0, 6, 0, 0, 3};
        for (int what = 0; what < 7; what++) {
            DUE.is("set(" + what + ") too small", x.set(what, bounds[what][0] - 1), -1);
            DUE.is("set(" + what + ") too great", x.set(what, bounds[what][1] + 1), -1);
            DUE.is("set(" + what + ") least", x.set(what, bounds[what][0]), first[what]);
            DUE.is("set(" + what + ") most", x.set(what, bounds[what][1]), bounds[what][0]);
            DUE.is("set(" + what + ") back", x.set(what, first[what]), bounds[what][1]);
        }
        DUE.is("set(-1)", x.set(-1, 1), -1);
        DUE.is("set(7)", x.set(7, 1), -1);
        x.tick(10, 10);
        x.set(0, 3);
        DUE.is("set leaves the TICK", x.count(3), 1);
    }

    private static void wall() {
        CoffeeThatSlops x = new CoffeeThatSlops();
        DUE.is("wall", x.wall(6, 30), 100);
        DUE.is("wall again", x.wall(6, 0), 30);
        DUE.is("wall refused above", x.wall(6, 101), -1);
        DUE.is("wall refused below", x.wall(6, -1), -1);
        DUE.is("no such gap", x.wall(7, 50), -1);
        DUE.is("no such gap", x.wall(-1, 50), -1);
        DUE.is("WALLS", x.count(9), 1);
        x.tick(80, 80);
        DUE.is("nothing through a wall along", x.cell(0, 6, 1), 0);
        DUE.is("nothing through a wall across", x.cell(1, 6, 1), 0);
        DUE.is("no wall any more", x.wall(6, 100), 0);
        DUE.is("WALLS", x.count(9), 0);
    }

    private static void sheet() {
        CoffeeThatSlops x = new CoffeeThatSlops();
        x.cup(5, 100, 80);
        DUE.is("ints", x.sheet(2, 3, 10, 20), 10 + 30 + 50 + 100);
        holes("ints", x, 10, 30, 50, 100);
        DUE.is("all four", x.sheet(2, 4, 90, 30), 90 + 300);
        holes("all four", x, 90, 100, 100, 100);
        DUE.is("bytes", x.sheet(0, 3, 120, 68), 100 + 0 + 0 + 100);
        holes("bytes", x, 100, 0, 0, 100);
        DUE.is("shorts", x.sheet(1, 3, 32767, 1), 100 + 0 + 0 + 100);
        holes("shorts", x, 100, 0, 0, 100);
        DUE.is("shorts, lowest bits", x.sheet(1, 1, 65536 + 7, 0), 307);
        DUE.is("bytes, lowest bits", x.sheet(0, 1, 256 + 9, 0), 309);
        DUE.is("ints wrap", x.sheet(2, 2, Integer.MAX_VALUE, 1), 300);
        holes("ints wrap", x, 100, 0, 100, 100);
        DUE.is("n below 0", x.sheet(1, -1, 5, 5), -2);
        holes("n below 0", x, 100, 0, 100, 100);
        DUE.is("none told", x.sheet(0, 0, 5, 5), 400);
        x.wall(2, 6);
        DUE.is("another kind", x.sheet(4, 1, 5, 5), -1);
        DUE.is("another kind ahead of -2", x.sheet(-1, -1, 5, 5), -1);
        DUE.is("n above", x.sheet(0, 5, 5, 5), -1);
        DUE.is("n above ahead of missing", x.sheet(3, 5, 5, 5), -1);
        DUE.is("refused sheets change nothing", x.count(9), 1);
        DUE.is("missing", x.sheet(3, 4, 5, 5), -3);
        DUE.is("missing: no walls", x.count(9), 0);
        x.wall(2, 6);
        DUE.is("missing, n below 0", x.sheet(3, -7, 5, 5), -3);
        DUE.is("missing: no walls", x.count(9), 0);
    }

    private static void fresh() {
        CoffeeThatSlops x = new CoffeeThatSlops();
        x.wall(1, 50);
        x.tick(500, 500);
        x.tick(500, 500);
        x.seed(5);
        DUE.is("fresh", x.fresh(), 2);
        heights("fresh", x, 0, 80, 80, 80, 80, 80, 80, 80, 80);
        flows("fresh", x, 1, 0, 0, 0, 0, 0, 0, 0, 0);
        DUE.is("fresh: SPILT", x.of(0, 1), 0);
        DUE.is("fresh again", x.fresh(), 0);
        DUE.is("fresh: walls stay", x.count(9), 1);
        DUE.is("fresh: R stays", x.seed(1), 5);
    }

    private static void tilt() {
        CoffeeThatSlops x = new CoffeeThatSlops();
        x.cup(4, 100, 50);
        x.tick(100, 100);
        DUE.is("tilt", x.tilt(0, 10), true);
        heights("tilt", x, 0, 60, 53, 47, 40);
        flows("tilt", x, 0, 0, 0, 0, 0);
        DUE.is("tilt leaves the TICK", x.count(3), 1);
        DUE.is("tilt leaves the other ROW", x.cell(1, 0, 1), 98);
        x.tilt(1, -11);
        heights("tilt across", x, 1, 39, 47, 53, 61);
        x.tilt(0, 500);
        heights("tilt, most", x, 0, 100, 100, 0, 0);
        x.tilt(0, -500);
        heights("tilt, least", x, 0, 0, 0, 100, 100);
        x.tilt(0, 0);
        heights("no tilt", x, 0, 50, 50, 50, 50);
        DUE.is("tilt refused", x.tilt(0, 501), false);
        DUE.is("tilt refused", x.tilt(0, -501), false);
        DUE.is("tilt refused", x.tilt(2, 1), false);
        DUE.is("tilt refused", x.tilt(-1, 1), false);
        heights("tilt refused", x, 0, 50, 50, 50, 50);
        x.tick(500, 0);
        x.tick(500, 0);
        long spilt = x.of(0, 1);
        x.tilt(0, 3);
        DUE.is("tilt leaves what was SPILT", spilt > 0 && x.of(0, 1) == spilt, true);
    }

    private static void tickMoves() {
        CoffeeThatSlops x = new CoffeeThatSlops();
        x.cup(3, 100, 60);
        x.set(0, 16);
        x.set(1, 0);
        DUE.is("tick", x.tick(16, 0), 0);
        heights("first tick", x, 0, 58, 60, 62);
        flows("first tick", x, 0, 16, 16, 0);
        x.tick(0, 0);
        heights("second tick", x, 0, 57, 60, 63);
        flows("second tick", x, 0, 14, 14, 0);
        DUE.is("TICK", x.count(3), 2);
        int[][] refused = {{501, 0}, {-501, 0}, {0, 501}, {0, -501}};
        for (int[] r : refused) {
            DUE.is("tick refused", x.tick(r[0], r[1]), -1);
        }
        DUE.is("TICK after refusals", x.count(3), 2);
    }

    private static void tickCuts() {
        CoffeeThatSlops x = new CoffeeThatSlops();
        x.cup(2, 100, 50);
        x.set(0, 5);
        x.set(1, 10);
        x.tilt(0, -1);
        x.tick(0, 0);
        flows("5 * -2 / 16 is cut to 0", x, 0, 0, 0);
        x.tick(-9, 0);
        flows("a loss of 9 * 10 / 100 is cut to 0", x, 0, -9, 0);
        heights("-9 / 8 is cut to 0", x, 0, 50, 50);
        x.tick(0, 0);
        heights("-9 goes back one more", x, 0, 51, 49);
    }

    private static void tickDampsAndHoles() {
        CoffeeThatSlops x = new CoffeeThatSlops();
        x.cup(2, 100, 50);
        x.set(0, 1);
        x.set(1, 10);
        x.set(2, 3);
        x.set(3, 20);
        x.tick(100, -100);
        flows("70 hundredths lost", x, 0, 30, 0);
        flows("70 hundredths lost, back", x, 1, -30, 0);
        x.fresh();
        x.set(2, 9);
        x.tick(100, 0);
        flows("100 hundredths at most", x, 0, 0, 0);
        x.fresh();
        x.set(2, 0);
        x.wall(0, 33);
        x.tick(-100, 0);
        flows("-90 times 33 by 100", x, 0, -29, 0);
        x.wall(0, 0);
        x.tick(500, 0);
        flows("a hole of 0", x, 0, 0, 0);
    }

    private static void tickTakesNoMoreThanThereIs() {
        CoffeeThatSlops x = new CoffeeThatSlops();
        x.cup(3, 100, 4);
        x.set(1, 0);
        DUE.is("tick", x.tick(80, -80), 0);
        // along, 4 go over the first gap and 8 of 10 that are wanted over the second one
        heights("along", x, 0, 0, 0, 12);
        flows("along", x, 0, 32, 64, 0);
        // across, the first gap takes the 4 of the middle cell, the second one those of the last
        heights("across", x, 1, 8, 4, 0);
        flows("across", x, 1, -32, -32, 0);
    }

    private static void tickSpills() {
        CoffeeThatSlops x = new CoffeeThatSlops();
        x.cup(2, 100, 80);
        x.set(1, 0);
        DUE.is("spilt along and across", x.tick(400, -320), 30 + 20);
        DUE.is("of(0, 1)", x.of(0, 1), 30);
        DUE.is("of(1, 1)", x.of(1, 1), 20);
        heights("at the rim", x, 0, 30, 100);
        heights("at the rim", x, 1, 100, 40);
        x.fresh();
        x.set(4, 33);
        DUE.is("LID 33", x.tick(400, 0), 30 - 9);
        heights("LID 33", x, 0, 30, 109);
        x.fresh();
        x.set(4, 100);
        DUE.is("LID 100", x.tick(500, 0), 0);
        heights("LID 100", x, 0, 18, 142);
        x.cup(3, 10, 10);
        x.set(4, 0);
        x.set(1, 0);
        x.wall(1, 0);
        DUE.is("a middle CELL does not spill", x.tick(80, 0), 0);
        heights("a middle CELL does not spill", x, 0, 0, 20, 10);
    }

    private static void tickBoundsFlows() {
        CoffeeThatSlops x = new CoffeeThatSlops();
        x.cup(20, 999, 999);
        x.set(0, 1);
        x.set(1, 0);
        x.set(4, 100);
        int most = 0;
        int least = 0;
        for (int i = 0; i < 25; i++) {
            x.tick(500, -500);
            for (int gap = 0; gap < 19; gap++) {
                most = Math.max(most, x.cell(0, gap, 1));
                least = Math.min(least, x.cell(1, gap, 1));
            }
        }
        DUE.is("the greatest FLOW", most, 8000);
        DUE.is("the least FLOW", least, -8000);
        DUE.is("all stays in the cup", x.of(0, 2), 20 * 999);
        DUE.is("all stays in the cup", x.of(1, 2), 20 * 999);
    }

    private static void tickTwoRows() {
        CoffeeThatSlops x = new CoffeeThatSlops();
        CoffeeThatSlops y = new CoffeeThatSlops();
        int[] pushes = {120, -40, 300, -500, 17, 0, 0, 88};
        for (int push : pushes) {
            DUE.is("ROWS are alike", x.tick(push, 0), y.tick(0, push));
        }
        for (int c = 0; c < 8; c++) {
            DUE.is("HEIGHTS are alike", x.cell(0, c, 0), y.cell(1, c, 0));
            DUE.is("FLOWS are alike", x.cell(0, c, 1), y.cell(1, c, 1));
            DUE.is("the other ROW is still", x.cell(1, c, 0), 80);
        }
    }

    private static void cellAndOf() {
        CoffeeThatSlops x = new CoffeeThatSlops();
        x.cup(3, 100, 60);
        x.set(0, 16);
        x.set(1, 0);
        x.tick(40, 0);
        heights("cell", x, 0, 55, 60, 65);
        flows("cell", x, 0, 40, 40, 0);
        DUE.is("SLOPE", x.of(0, 0), -10);
        DUE.is("SPILT", x.of(0, 1), 0);
        DUE.is("all", x.of(0, 2), 180);
        DUE.is("greatest", x.of(0, 3), 65);
        DUE.is("greatest across", x.of(1, 3), 60);
        int[][] cells = {{-1, 0, 0}, {2, 0, 0}, {0, -1, 0}, {0, 3, 0}, {0, 0, -1}, {0, 0, 2}};
        for (int[] c : cells) {
            DUE.noSuch("cell", () -> x.cell(c[0], c[1], c[2]));
        }
        int[][] ofs = {{-1, 0}, {2, 0}, {0, -1}, {0, 4}};
        for (int[] o : ofs) {
            DUE.noSuch("of", () -> x.of(o[0], o[1]));
        }
    }

    private static void heights(String call, CoffeeThatSlops x, int row, long... want) {
        for (int c = 0; c < want.length; c++) {
            DUE.is(call + ": HEIGHT of CELL " + c + " of ROW " + row, x.cell(row, c, 0), want[c]);
        }
    }

    private static void flows(String call, CoffeeThatSlops x, int row, long... want) {
        for (int c = 0; c < want.length; c++) {
            DUE.is(call + ": FLOW behind CELL " + c + " of ROW " + row, x.cell(row, c, 1), want[c]);
        }
    }

    private static void holes(String call, CoffeeThatSlops x, int... want) {
        for (int gap = 0; gap < want.length; gap++) {
            DUE.is(call + ": HOLE at GAP " + gap, x.wall(gap, want[gap]), want[gap]);
        }
    }
}
