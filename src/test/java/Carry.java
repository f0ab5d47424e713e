/** What a WALK would do to a cup, worked out from tick() and gives() alone. */
final class Carry {
    /** A cup's ways, so that tests can make the same one again with one thing changed. */
    int cells = 6;
    int rim = 60;
    int fill = 50;
    final int[] settings = {8, 2, 0, 6, 0, 0, 3};
    final int[] holes = new int[19];
    final String[] laws = {"", "", ""};
    int seed = 1;

    int spilt;
    int firstTick;
    int greatest;
    int greatestSlope;
    java.util.List<Integer> spillTicks;

    Carry() {
        java.util.Arrays.fill(holes, 100);
    }

    Carry like(Carry other) {
        cells = other.cells;
        rim = other.rim;
        fill = other.fill;
        seed = other.seed;
        System.arraycopy(other.settings, 0, settings, 0, settings.length);
        System.arraycopy(other.holes, 0, holes, 0, holes.length);
        System.arraycopy(other.laws, 0, laws, 0, laws.length);
        return this;
    }

    CoffeeThatSlops make() {
        CoffeeThatSlops x = new CoffeeThatSlops();
        x.cup(cells, rim, fill);
        for (int what = 0; what < settings.length; what++) {
            x.set(what, settings[what]);
        }
        for (int gap = 0; gap < cells - 1; gap++) {
            x.wall(gap, holes[gap]);
        }
        for (int i = 0; i < laws.length; i++) {
            Spell.law(x, i, laws[i]);
        }
        return x;
    }

    /** One TICK of a walk: PUSH ALONG, ACROSS, WANDER, STEP (-1: of none). */
    static java.util.List<int[]> ticks(String walk) {
        java.util.List<int[]> ticks = new java.util.ArrayList<>();
        int wander = 0;
        int steps = 0;
        for (String part : walk.isEmpty() ? new String[0] : walk.split(";")) {
            String[] n = part.substring(1).split("[,*]");
            int first = Integer.parseInt(n[0]);
            if (part.charAt(0) == 'w') {
                wander = first;
            } else if (part.charAt(0) == 'j') {
                ticks.add(new int[] {first, 0, wander, -1});
            } else if (part.charAt(0) == 's') {
                for (int i = 0; i < first; i++) {
                    ticks.add(new int[] {0, 0, wander, -1});
                }
            } else {
                int each = Integer.parseInt(n[1]);
                int sway = Integer.parseInt(n[2]);
                for (int k = 0; k < Integer.parseInt(n[3]); k++, steps++) {
                    for (int i = 0; i < each; i++) {
                        int side = steps % 2 == 0 ? sway : -sway;
                        ticks.add(new int[] {i < each / 2 ? first : -first, side, wander, steps});
                    }
                }
            }
        }
        return ticks;
    }

    /** Carries the walk on; a PUSH of null is a TICK of a pause; from turnAt on the ROWS are turned. */
    Carry run(java.util.List<int[]> ticks, int turnAt) {
        CoffeeThatSlops x = make();
        int hand = settings[6];
        int r = seed;
        spilt = 0;
        firstTick = -1;
        greatest = 0;
        greatestSlope = 0;
        spillTicks = new java.util.ArrayList<>();
        for (int i = 0; i < ticks.size(); i++) {
            int[] t = ticks.get(i);
            int push = t == null ? 0 : t[0];
            int side = t == null ? 0 : t[1];
            if (t != null && t[2] > 0) {
                r = r * 1103515245 + 12345;
                push += (r >>> 16) % (2 * t[2] + 1) - t[2];
            }
            if (t != null && hand < 3 && !laws[hand].isEmpty()) {
                push = x.gives(hand, push);
            }
            int over = i < turnAt ? x.tick(push, side) : x.tick(side, push);
            spilt += over;
            if (over > 0) {
                firstTick = firstTick < 0 ? i : firstTick;
                spillTicks.add(i);
            }
            for (int row = 0; row < 2; row++) {
                greatest = Math.max(greatest, Math.max(x.cell(row, 0, 0), x.cell(row, cells - 1, 0)));
            }
            greatestSlope = Math.max(greatestSlope, Math.abs(x.of(0, 0)));
        }
        return this;
    }

    Carry run(String walk) {
        return run(ticks(walk), Integer.MAX_VALUE);
    }

    /** Some cups and hands that differ in all that matters, made by a number. */
    static Carry some(int k) {
        Carry c = new Carry();
        c.cells = 2 + k * 5 % 9;
        c.rim = 40 + k * 37 % 150;
        c.fill = c.rim * (70 + k * 7 % 30) / 100;
        c.settings[0] = 1 + k * 3 % 16;
        c.settings[1] = k % 4 * 3;
        c.settings[2] = k % 3 == 2 ? 1 : 0;
        c.settings[4] = k % 5 == 4 ? 40 : 0;
        c.settings[5] = k % 4;
        c.settings[6] = k % 4;
        c.laws[0] = "p-s/2";
        c.laws[1] = k % 2 == 0 ? "" : "p*h/60+f*9-t/4";
        c.laws[2] = "p*3/2+s/4";
        if (k % 3 == 1) {
            c.holes[0] = 60;
        }
        return c;
    }

    /** A cup with HOLE v at a GAP (100: no wall), STIFF, DAMP, FOAM and BITE, and nothing else of its own. */
    static Carry of(int[] cup, int gap, int v, int... settings) {
        Carry c = new Carry();
        c.cells = cup[0];
        c.rim = cup[1];
        c.fill = cup[2];
        c.holes[gap] = v;
        System.arraycopy(settings, 0, c.settings, 0, settings.length);
        return c;
    }

    static final String[] WALKS = {
        "g60,6,20*6", "g25,8,40*4;s5;j90;g70,3,0*3", "w20;g40,5,10*5;s3;j-80", "s4;w30;g20,10,3*3;w0;g90,2,90*4", "",
        "j150;s9;g15,7,15*5", "s3;w4"};
}
