import java.util.ArrayList;
import java.util.List;

/** Promises 39 to 42: spots on the floor. */
public final class SpotTest {
    private static final Due DUE = new Due();

    public static void main(String[] args) {
        spotAndWipe();
        farByNumbers();
        far();
        who();
        whoOfEqualOnes();
        DUE.end();
    }

    private static void spotAndWipe() {
        CoffeeThatSlops x = new CoffeeThatSlops();
        DUE.is("spot(-1)", x.spot(-1), -1);
        DUE.is("spot(1001)", x.spot(1001), -1);
        DUE.is("no spot", x.wipe(), 0);
        for (int i = 1; i <= 12; i++) {
            DUE.is("spot", x.spot(i % 2 * 1000), i);
        }
        DUE.is("a 13th spot", x.spot(5), -1);
        DUE.is("spots", x.count(5), 12);
        DUE.is("wipe", x.wipe(), 12);
        DUE.is("spots", x.count(5), 0);
        DUE.is("spot", x.spot(5), 1);
    }

    private static void farByNumbers() {
        CoffeeThatSlops x = Spell.cup(2, 100, 80, "s20;j200;s30;j200");
        x.set(0, 1);
        x.set(1, 50);
        x.set(2, 9);
        x.set(3, 5);
        // no foam: 45 + 50 hundredths are lost, so that just the jerks spill nothing, and all is still
        DUE.is("no spots, nothing spilt", x.far(0, 3), 0);
        x.spot(7);
        DUE.is("a spot, nothing spilt", x.far(0, 3), 1000);
        x.cup(2, 100, 100);
        x.set(2, 0);
        // of 200 a half goes: 100 by 8 is 12 in the TICK, and then less and less
        CoffeeThatSlops y = Spell.cup(2, 100, 100, "");
        y.set(0, 1);
        y.set(1, 50);
        List<Integer> spills = new ArrayList<>();
        for (int t = 0; t < 52; t++) {
            if (y.tick(t == 20 || t == 51 ? 200 : 0, 0) > 0) {
                spills.add(t);
            }
        }
        DUE.is("spills", spills.size() > 1 && spills.get(0) == 20 && spills.get(spills.size() - 1) == 51, true);
        x.wipe();
        DUE.is("no spots", x.far(0, 3), 1000L * spills.size());
        x.spot(18);
        long sum = 2;
        for (int t : spills) {
            sum += t - 18;
        }
        DUE.is("one spot", x.far(0, 3), sum);
        x.spot(1000);
        DUE.is("another spot, far off", x.far(0, 3), sum + 1000 - 51);
        x.spot(18);
        DUE.is("the same spot again", x.far(0, 3), sum + 1000 - 51 + 2);
    }

    private static long distance(List<Integer> spots, List<Integer> spills) {
        return toNearest(spots, spills) + toNearest(spills, spots);
    }

    private static long toNearest(List<Integer> from, List<Integer> to) {
        long sum = 0;
        for (int f : from) {
            int least = 1000;
            for (int t : to) {
                least = Math.min(least, Math.abs(f - t));
            }
            sum += least;
        }
        return sum;
    }

    private static void far() {
        for (int k = 0; k < 12; k++) {
            for (String walk : Carry.WALKS) {
                CoffeeThatSlops x = Carry.some(k).make();
                Spell.walk(x, 2, walk);
                List<Integer> spots = new ArrayList<>();
                for (int i = 0; i < k; i++) {
                    spots.add(i * k * 13 % 77);
                    x.spot(i * k * 13 % 77);
                }
                for (int hand = 0; hand <= 3; hand++) {
                    Carry c = Carry.some(k);
                    boolean none = hand < 3 && c.laws[hand].isEmpty();
                    c.settings[6] = hand;
                    long want = none ? -1 : distance(spots, c.run(walk).spillTicks);
                    DUE.is("far, cup " + k + ", " + walk + ", hand " + hand, x.far(2, hand), want);
                }
                DUE.is("far() tells no ROW", x.count(7), 0);
            }
        }
        CoffeeThatSlops x = new CoffeeThatSlops();
        int[][] wrong = {{-1, 3}, {4, 3}, {0, 0}, {0, 4}, {0, -1}};
        for (int[] w : wrong) {
            DUE.is("far refused", x.far(w[0], w[1]), -1);
        }
    }

    private static void who() {
        for (int k = 0; k < 24; k++) {
            CoffeeThatSlops x = Carry.some(k).make();
            List<Integer> spots = new ArrayList<>();
            for (int i = 0; i < k % 6; i++) {
                spots.add(i * k * 7 % 60);
                x.spot(i * k * 7 % 60);
            }
            long least = Long.MAX_VALUE;
            int[] best = new int[3];
            for (int w = 0; w < 4; w++) {
                String walk = Carry.WALKS[(k + 3 * w) % Carry.WALKS.length];
                Spell.walk(x, w, walk);
                for (int hand = 0; hand <= 3; hand++) {
                    Carry c = Carry.some(k);
                    if (walk.isEmpty() || hand < 3 && c.laws[hand].isEmpty()) {
                        continue;
                    }
                    c.settings[6] = hand;
                    long far = distance(spots, c.run(walk).spillTicks);
                    if (far < least) {
                        least = far;
                        best = new int[] {w, hand, 1};
                    } else if (far == least) {
                        best[2]++;
                    }
                }
            }
            DUE.is("who, cup " + k, x.who(), least);
            DUE.row("who, cup " + k, x, best[0], best[1], best[2]);
        }
    }

    private static void whoOfEqualOnes() {
        CoffeeThatSlops x = new CoffeeThatSlops();
        x.steps(0);
        x.spot(3);
        DUE.is("no WALK has TICKS", x.who(), -2);
        DUE.row("no WALK has TICKS", x, 0, 0, 0);
        Spell.walk(x, 2, "s3");
        Spell.walk(x, 3, "s3");
        DUE.is("none spills", x.who(), 1000);
        DUE.row("none spills", x, 2, 3, 2);
        Spell.law(x, 1, "p");
        DUE.is("none spills", x.who(), 1000);
        DUE.row("none spills", x, 2, 1, 4);
    }
}
