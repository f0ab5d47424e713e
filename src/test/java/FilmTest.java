/** Promises 43 to 45: films of a hand. */
public final class FilmTest {
    private static final Due DUE = new Due();
    private static final int[][] FILMS = {{100, 30, 4, 80}, {-500, -999, 1000, 500}, {500, 999, 0, -500}, {0, 17, 3, -9},
        {33, -33, 12, 50}, {7, 0, 0, 7}};

    public static void main(String[] args) {
        film();
        fits();
        fitsTies();
        reads();
        readsTies();
        DUE.end();
    }

    private static void film() {
        CoffeeThatSlops x = new CoffeeThatSlops();
        int[][] wrong = {{501, 0, 0, 0}, {-501, 0, 0, 0}, {0, 1000, 0, 0}, {0, -1000, 0, 0}, {0, 0, -1, 0}, {0, 0, 1001, 0},
            {0, 0, 0, 501}, {0, 0, 0, -501}};
        for (int[] w : wrong) {
            DUE.is("film refused", x.film(w[0], w[1], w[2], w[3]), -1);
        }
        for (int i = 1; i <= 20; i++) {
            DUE.is("film", x.film(i % 2 * 1000 - 500, 999, 1000, 500), i);
        }
        DUE.is("a 21st film", x.film(0, 0, 0, 0), -1);
        DUE.is("films", x.count(6), 20);
    }

    private static void fits() {
        String[] laws = {"p", "p-s/2", "f*9+h", "t-s", "-p", "p*3"};
        for (int fill : new int[] {0, 55}) {
            for (String law : laws) {
                CoffeeThatSlops x = new CoffeeThatSlops();
                x.cup(5, 90, fill);
                x.set(2, 4);
                x.set(5, 7);
                Spell.law(x, 1, law);
                x.tick(400, 0);
                x.tick(400, 0);
                for (int[] f : FILMS) {
                    x.film(f[0], f[1], f[2], f[3]);
                }
                for (int within : new int[] {0, 20, 99}) {
                    int fit = 0;
                    int sum = 0;
                    int worst = 0;
                    for (int i = 0; i < FILMS.length; i++) {
                        int off = off(law, fill, FILMS[i]);
                        sum += off;
                        fit += off <= within ? 1 : 0;
                        worst = off > off(law, fill, FILMS[worst]) ? i : worst;
                    }
                    DUE.is("fits " + law + " within " + within, x.fits(1, within), fit);
                    DUE.row("fits " + law + " within " + within, x, sum, worst);
                }
            }
        }
        CoffeeThatSlops x = new CoffeeThatSlops();
        Spell.law(x, 0, "p");
        DUE.is("no films", x.fits(0, 0), 0);
        DUE.row("no films", x, 0, -1);
        int[][] wrong = {{1, 0}, {3, 0}, {-1, 0}, {0, -1}, {0, 100}};
        for (int[] w : wrong) {
            DUE.is("fits refused", x.fits(w[0], w[1]), -1);
        }
        DUE.row("refused", x, 0, -1);
    }

    private static int off(String law, int fill, int[] film) {
        int p = film[0];
        int s = film[1];
        int by = switch (law) {
            case "p" -> p;
            case "p-s/2" -> p - s / 2;
            case "f*9+h" -> 36 + fill;
            case "t-s" -> film[2] - s;
            case "-p" -> -p;
            default -> p * 3;
        };
        return Math.abs(Math.max(-500, Math.min(500, by)) - film[3]);
    }

    private static void fitsTies() {
        CoffeeThatSlops x = new CoffeeThatSlops();
        Spell.law(x, 2, "0");
        x.film(0, 0, 0, 3);
        x.film(0, 0, 0, -8);
        x.film(0, 0, 0, 8);
        DUE.is("fits", x.fits(2, 7), 1);
        DUE.row("of equal ones the first", x, 19, 1);
        DUE.is("within is within", x.fits(2, 8), 3);
    }

    private static void reads() {
        int[][] readings = {{10, 5}, {0, 0}, {20, 20}, {7, 13}, {15, 0}};
        for (int[] ab : readings) {
            CoffeeThatSlops x = new CoffeeThatSlops();
            for (int i = 0; i < 8; i++) {
                int p = 90 * i % 401 - 200;
                int s = 170 * i % 303 - 150;
                x.film(p, s, i, Math.max(-500, Math.min(500, p * ab[0] / 10 - s * ab[1] / 10)));
            }
            DUE.is("reads", x.reads(), 0);
            DUE.row("reads", x, ab[0], ab[1], 0);
        }
        for (int k = 0; k < 12; k++) {
            CoffeeThatSlops x = new CoffeeThatSlops();
            int[][] films = new int[1 + k][];
            for (int i = 0; i <= k; i++) {
                films[i] = new int[] {(i * 331 + k * 17) % 1001 - 500, (i * 707 + k * 91) % 1999 - 999, i,
                    (i * 149 + k * 211) % 1001 - 500};
                x.film(films[i][0], films[i][1], films[i][2], films[i][3]);
            }
            long least = Long.MAX_VALUE;
            int[] best = new int[2];
            for (int a = 20; a >= 0; a--) {
                for (int b = 20; b >= 0; b--) {
                    long sum = 0;
                    for (int[] f : films) {
                        int by = f[0] * a / 10 - f[1] * b / 10;
                        sum += Math.abs(Math.max(-500, Math.min(500, by)) - f[3]);
                    }
                    if (sum <= least) {
                        least = sum;
                        best = new int[] {a, b};
                    }
                }
            }
            DUE.is("reads", x.reads(), 0);
            DUE.row("reads, films " + k, x, best[0], best[1], least);
        }
    }

    private static void readsTies() {
        CoffeeThatSlops x = new CoffeeThatSlops();
        x.steps(0);
        DUE.is("no films", x.reads(), -1);
        DUE.row("no films", x, 0, 0, 0);
        x.film(0, 0, 0, 5);
        DUE.is("all alike", x.reads(), 0);
        DUE.row("of equal ones the least row", x, 0, 0, 5);
        x.film(-9, -9, 0, -4);
        x.reads();
        // -9 * 5 / 10 is cut to -4
        DUE.row("each is cut", x, 5, 0, 5);
    }
}
