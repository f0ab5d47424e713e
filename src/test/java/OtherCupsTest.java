import java.util.ArrayList;
import java.util.List;

/** Promises 32 to 38: other cups, a door, two hands. */
public final class OtherCupsTest {
    private static final Due DUE = new Due();
    private static final int NEVER = Integer.MAX_VALUE;

    public static void main(String[] args) {
        form();
        turn();
        door();
        two();
        stop();
        stopByNumbers();
        stopLong();
        pause();
        stir();
        DUE.end();
    }

    private static void form() {
        int[] found = new int[22];
        for (int k = 0; k < 120; k++) {
            Carry like = Carry.some(k);
            like.fill = like.rim * (20 + k * 7 % 70) / 100;
            String[] walks = new String[4];
            CoffeeThatSlops x = like.make();
            for (int i = 0; i < 4; i++) {
                walks[i] = "g" + (2 + k % 9) + "," + (2 + (k + 5 * i) % 30) + "," + i + "*10";
                walks[i] = k % 5 == i ? Carry.WALKS[k % Carry.WALKS.length] : walks[i];
                Spell.walk(x, i, walks[i]);
            }
            int bits = 1 + k * 11 % 15;
            int want = -2;
            for (int cells = 20; cells >= 2; cells--) {
                int spilt = 0;
                for (int i = 0; i < 4; i++) {
                    Carry c = new Carry().like(like);
                    c.cells = cells;
                    c.holes[0] = 100;
                    spilt += (bits & 1 << i) != 0 ? c.run(walks[i]).spilt : 0;
                }
                want = spilt == 0 ? cells : want;
            }
            found[want < 0 ? 0 : want]++;
            DUE.is("form(" + bits + "), cup " + k, x.form(bits), want);
            DUE.is("CELLS stay", x.count(0), like.cells);
            DUE.is("walls stay", x.count(9), like.holes[0] < 100 ? 1 : 0);
            DUE.is("form() tells no ROW", x.count(7), 0);
        }
        int kinds = 0;
        for (int f : found) {
            kinds += f > 0 ? 1 : 0;
        }
        DUE.is("several forms, and none", kinds > 2 && found[0] > 0, true);
        CoffeeThatSlops x = new CoffeeThatSlops();
        DUE.is("form(0)", x.form(0), -1);
        DUE.is("form(16)", x.form(16), -1);
        DUE.is("form(-1)", x.form(-1), -1);
        DUE.is("no TICKS", x.form(15), 2);
    }

    private static void turn() {
        int matters = 0;
        for (int k = 0; k < 16; k++) {
            for (String walk : Carry.WALKS) {
                int at = k * 5 % 37;
                CoffeeThatSlops x = Carry.some(k).make();
                Spell.walk(x, 1, walk);
                int without = Carry.some(k).run(walk).spilt;
                int with = Carry.some(k).run(Carry.ticks(walk), at).spilt;
                matters += with != without ? 1 : 0;
                DUE.is("turn at " + at + ", cup " + k + ", " + walk, x.turn(1, at), with);
                DUE.row("turn", x, without);
                DUE.is("turn at 1000", x.turn(1, 1000), without);
            }
        }
        DUE.is("a turn matters", matters > 5, true);
        CoffeeThatSlops x = new CoffeeThatSlops();
        int[][] wrong = {{-1, 0}, {4, 0}, {0, -1}, {0, 1001}};
        for (int[] w : wrong) {
            DUE.is("turn refused", x.turn(w[0], w[1]), -1);
        }
        DUE.is("turn refused tells nothing", x.count(7), 0);
    }

    private static void door() {
        int later = 0;
        for (int k = 0; k < 24; k++) {
            for (String walk : Carry.WALKS) {
                List<int[]> ticks = Carry.ticks(walk);
                int want = -1;
                int least = Integer.MAX_VALUE;
                for (int at = 0; at <= ticks.size(); at++) {
                    if (at % 10 != 0 && at != ticks.size()) {
                        continue;
                    }
                    int spilt = Carry.some(k).run(ticks, at).spilt;
                    if (spilt < least) {
                        least = spilt;
                        want = at;
                    }
                }
                later += want > 0 ? 1 : 0;
                CoffeeThatSlops x = Carry.some(k).make();
                Spell.walk(x, 0, walk);
                DUE.is("door, cup " + k + ", " + walk, x.door(0), want);
                DUE.row("door, cup " + k + ", " + walk, x, least);
            }
        }
        DUE.is("some door is later", later > 3, true);
        doorAtItsTicks();
        CoffeeThatSlops x = Spell.cup(2, 100, 98, "g0,10,200*1");
        DUE.is("door(-1)", x.door(-1), -1);
        DUE.is("door(4)", x.door(4), -1);
        DUE.is("a refused door tells nothing", x.count(7), 0);
        DUE.is("no TICKS", x.door(3), 0);
        DUE.row("no TICKS", x, 0);
    }

    /** By a hand that steadies what comes ALONG alone, the best door may be the one at the TICKS, where nothing turns. */
    private static void doorAtItsTicks() {
        int atTicks = 0;
        int atTens = 0;
        for (int each = 2; each <= 10; each++) {
            for (int times = 1; times <= 9; times++) {
                String walk = "g20," + each + ",40*" + times;
                int ticks = each * times;
                Carry c = new Carry();
                c.cells = 8;
                c.rim = 100;
                c.fill = 80;
                c.settings[6] = 0;
                c.laws[0] = "p-s";
                int want = -1;
                int least = Integer.MAX_VALUE;
                for (int tens = 0; tens < ticks + 10; tens += 10) {
                    int at = Math.min(tens, ticks);
                    int spilt = c.run(Carry.ticks(walk), at).spilt;
                    want = spilt < least ? at : want;
                    least = Math.min(spilt, least);
                }
                atTicks += want == ticks && ticks % 10 != 0 ? 1 : 0;
                atTens += want == ticks && ticks % 10 == 0 ? 1 : 0;
                CoffeeThatSlops x = c.make();
                Spell.walk(x, 0, walk);
                DUE.is("door of " + walk, x.door(0), want);
                DUE.row("door of " + walk, x, least);
            }
        }
        DUE.is("some door is at TICKS that are no multiple of 10", atTicks > 3, true);
        DUE.is("some door is at TICKS that are a multiple of 10", atTens > 0, true);
        CoffeeThatSlops x = new CoffeeThatSlops();
        Spell.law(x, 0, "p-s");
        x.set(6, 0);
        DUE.is("6 TICKS", Spell.walk(x, 0, "g100,3,0*2"), 6);
        DUE.is("door at 6 of 6", x.door(0), 6);
    }

    private static void two() {
        int later = 0;
        for (int k = 0; k < 16; k++) {
            for (String walk : Carry.WALKS) {
                List<int[]> ticks = Carry.ticks(walk);
                int first = Carry.some(k).run(walk).spilt;
                int want = -1;
                int least = Integer.MAX_VALUE;
                for (int from = 0; from <= 40; from++) {
                    int spilt = Carry.some(k).run(ticks.subList(Math.min(from, ticks.size()), ticks.size()), NEVER).spilt;
                    if (spilt < least) {
                        least = spilt;
                        want = from;
                    }
                }
                later += want > 0 && want < 40 ? 1 : 0;
                CoffeeThatSlops x = Carry.some(k).make();
                Spell.walk(x, 0, walk);
                DUE.is("two, cup " + k + ", " + walk, x.two(0), want);
                DUE.row("two, cup " + k + ", " + walk, x, first, least);
            }
        }
        DUE.is("some second cup comes later", later > 3, true);
        CoffeeThatSlops y = Carry.of(new int[] {13, 161, 159}, 0, 100, 4, 0, 2, 5).make();
        Spell.walk(y, 0, "g60,14,42*3");
        DUE.is("the latest second cup", y.two(0), 40);
        CoffeeThatSlops x = new CoffeeThatSlops();
        DUE.is("two(-1)", x.two(-1), -1);
        DUE.is("two(4)", x.two(4), -1);
        DUE.is("no TICKS", x.two(0), 0);
        DUE.row("no TICKS", x, 0, 0);
    }

    private static void stop() {
        int none = 0;
        int later = 0;
        for (int k = 0; k < 20; k++) {
            Carry like = Carry.some(k);
            like.settings[6] = 0;
            int got = stopIsDue("stop, cup " + k, like, k < 3 ? k + 1 : 1 + k * 613 % 2500);
            none += got < 0 ? 1 : 0;
            later += got > 1 ? 1 : 0;
        }
        DUE.is("some stops are there, some not", none > 0 && later > 3, true);
        CoffeeThatSlops x = new CoffeeThatSlops();
        DUE.is("stop(0)", x.stop(0), -1);
        DUE.is("stop(5001)", x.stop(5001), -1);
        DUE.is("stop(-9)", x.stop(-9), -1);
    }

    /** Long ones, and such in which it matters how many TICKS behind are looked at. */
    private static void stopLong() {
        Carry[] cups = {Carry.of(new int[] {11, 296, 206}, 5, 83, 16, 0, 0, 5), Carry.of(new int[] {15, 269, 138}, 0, 57, 7, 8),
            Carry.of(new int[] {17, 309, 111}, 7, 52, 15, 0, 0, 3), Carry.of(new int[] {11, 387, 289}, 0, 100, 15, 0, 0, 4),
            Carry.of(new int[] {15, 30, 9}, 13, 5, 3, 3, 0, 0), Carry.of(new int[] {5, 264, 249}, 3, 6, 5, 0, 0, 3),
            Carry.of(new int[] {10, 393, 199}, 8, 20, 1, 2, 0, 2)};
        int[] speeds = {2216, 1482, 4235, 251, 1593, 1716, 3715};
        int[] wants = {200, 200, -2, 12, 97, 85, 58};
        for (int i = 0; i < cups.length; i++) {
            DUE.is("stop, long cup " + i, stopIsDue("stop, long cup " + i, cups[i], speeds[i]), wants[i]);
        }
    }

    private static int stopIsDue(String call, Carry like, int speed) {
        int want = -2;
        int greatest = 0;
        for (int n = 1; n <= 200 && want < 0; n++) {
            List<int[]> ticks = new ArrayList<>();
            int left = speed;
            for (int i = 0; i < n; i++) {
                int push = (left + n - i - 1) / (n - i);
                left -= push;
                ticks.add(new int[] {push, 0, 0, -1});
            }
            if (ticks.get(0)[0] > 500) {
                continue;
            }
            for (int i = 0; i < 100; i++) {
                ticks.add(null);
            }
            Carry c = new Carry().like(like);
            c.settings[6] = 3;
            if (c.run(ticks, NEVER).spilt == 0) {
                want = n;
                greatest = c.greatest;
            }
        }
        CoffeeThatSlops x = like.make();
        x.steps(0);
        DUE.is(call, x.stop(speed), want);
        if (want > 0) {
            DUE.row(call, x, greatest);
        } else {
            DUE.row(call + ": -2 leaves the ROW", x, 0, 0, 0);
        }
        return want;
    }

    private static void stopByNumbers() {
        CoffeeThatSlops x = new CoffeeThatSlops();
        x.cup(2, 999, 500);
        x.set(1, 50);
        DUE.is("500 in one", x.stop(500), 1);
        DUE.is("none above 500", x.stop(501), 2);
        DUE.is("none above 500", x.stop(1001), 3);
        x.cup(2, 100, 100);
        DUE.is("at the rim", x.stop(16), 2);
        DUE.row("at the rim", x, 100);
        DUE.is("at the rim, too much", x.stop(5000), -2);
        x.cup(2, 1, 0);
        DUE.is("an empty cup", x.stop(5000), 10);
        DUE.row("an empty cup", x, 0);
    }

    private static void pause() {
        int later = 0;
        for (int k = 0; k < 12; k++) {
            for (String walk : Carry.WALKS) {
                int at = k * 7 % 50;
                List<int[]> ticks = Carry.ticks(walk);
                int from = Math.min(at, ticks.size());
                int want = -1;
                int least = Integer.MAX_VALUE;
                for (int n = 0; n <= 40; n++) {
                    List<int[]> paused = new ArrayList<>(ticks.subList(0, from));
                    for (int i = 0; i < n; i++) {
                        paused.add(null);
                    }
                    paused.addAll(ticks.subList(from, ticks.size()));
                    int spilt = Carry.some(k).run(paused, NEVER).spilt;
                    if (spilt < least) {
                        least = spilt;
                        want = n;
                    }
                }
                later += want > 0 ? 1 : 0;
                CoffeeThatSlops x = Carry.some(k).make();
                Spell.walk(x, 0, walk);
                DUE.is("pause at " + at + ", cup " + k + ", " + walk, x.pause(0, at), want);
                DUE.row("pause at " + at + ", cup " + k + ", " + walk, x, least);
            }
        }
        DUE.is("some pause helps", later > 3, true);
        CoffeeThatSlops y = Carry.of(new int[] {17, 102, 60}, 0, 100, 5, 0, 0, 4).make();
        Spell.walk(y, 0, "g41,14,50*5;g12,10,0*3");
        DUE.is("the longest pause", y.pause(0, 14), 40);
        CoffeeThatSlops x = new CoffeeThatSlops();
        int[][] wrong = {{-1, 0}, {4, 0}, {0, -1}, {0, 1001}};
        for (int[] w : wrong) {
            DUE.is("pause refused", x.pause(w[0], w[1]), -1);
        }
        DUE.is("no TICKS", x.pause(0, 1000), 0);
        DUE.row("no TICKS", x, 0);
    }

    private static void stir() {
        CoffeeThatSlops x = new CoffeeThatSlops();
        x.cup(3, 100, 60);
        x.set(0, 16);
        x.set(1, 0);
        DUE.is("at rest", x.stir(0), 0);
        x.tick(16, -23);
        DUE.is("stirred along", x.stir(0), 4 + 0 + 4 + 4 + 4);
        DUE.is("stirred across, cut", x.stir(1), 4 + 0 + 4 + 4 + 4);
        x.tilt(0, 40);
        DUE.is("tilted", x.stir(0), 1600 + 1600);
        DUE.is("stir(2)", x.stir(2), -1);
        DUE.is("stir(-1)", x.stir(-1), -1);
        x.cup(20, 999, 999);
        x.set(4, 100);
        x.set(0, 1);
        for (int i = 0; i < 40; i++) {
            x.tick(500, 0);
        }
        long sum = 0;
        for (int c = 0; c < 20; c++) {
            long flow = c < 19 ? x.cell(0, c, 1) / 8 : 0;
            sum += (x.cell(0, c, 0) - 999L) * (x.cell(0, c, 0) - 999L) + flow * flow;
        }
        DUE.is("much stirred", x.stir(0), sum);
    }
}
