/** Promises 11 to 17: texts, walks, laws, and to go. */
public final class WalkTest {
    private static final Due DUE = new Due();

    public static void main(String[] args) {
        sign();
        end();
        walkTicks();
        walkWrong();
        walkNumbers();
        walkTooLong();
        walkTooManyTicks();
        walkLeavesTheOld();
        lawWrong();
        lawTooLong();
        gives();
        givesLate();
        steps();
        goes();
        goesWandering();
        goesByHand();
        DUE.end();
    }

    private static void sign() {
        CoffeeThatSlops x = new CoffeeThatSlops();
        for (int i = 1; i <= 20; i++) {
            DUE.is("sign", x.sign(-1), 4 * i);
        }
        DUE.is("sign refused", x.sign(0), -1);
        DUE.is("signs", x.count(8), 80);
        DUE.is("end", x.end(77), true);
        DUE.is("sign refused", x.sign(0), -1);
        DUE.is("signs", x.count(8), 77);
        x.end(0);
        x.sign('s' << 24 | '4' << 16 | '2' << 8 | ';');
        x.sign('j' << 24 | '-' << 16 | '7' << 8);
        x.end(7);
        DUE.is("highest byte first", x.walk(2), 43);
        DUE.is("a WALK empties THE TEXT", x.count(8), 0);
    }

    private static void end() {
        CoffeeThatSlops x = new CoffeeThatSlops();
        x.sign(0x73313233);
        DUE.is("end, so many", x.end(4), true);
        DUE.is("end, too many", x.end(5), false);
        DUE.is("end, below 0", x.end(-1), false);
        DUE.is("signs", x.count(8), 4);
        DUE.is("end", x.end(2), true);
        DUE.is("end, gone", x.end(3), false);
        DUE.is("signs", x.count(8), 2);
        DUE.is("end, none", x.end(0), true);
        DUE.is("signs", x.count(8), 0);
    }

    private static void walkTicks() {
        CoffeeThatSlops x = new CoffeeThatSlops();
        walk(x, "", 0);
        walk(x, "g10,4,5*2", 8);
        walk(x, "g0,2,0*1", 2);
        walk(x, "g200,40,200*25", 1000);
        walk(x, "g007,002,000*01", 2);
        walk(x, "s1", 1);
        walk(x, "s99", 99);
        walk(x, "j0;j-0;j200;j-200", 4);
        walk(x, "w0;w50", 0);
        walk(x, "w3;g10,4,5*2;s3;j-7;w0", 12);
        walk(x, "s99;s99;s99;s99;s99;s99;s99;s99;s99;s99;s10", 1000);
    }

    private static void walkWrong() {
        CoffeeThatSlops x = new CoffeeThatSlops();
        walk(x, "x", -1);
        walk(x, ";", -1);
        walk(x, "G1", -1);
        walk(x, "g", -2);
        walk(x, "g,", -2);
        walk(x, "g-1,2,0*1", -2);
        walk(x, "g1", -3);
        walk(x, "g1;", -3);
        walk(x, "g1,", -4);
        walk(x, "g1,2", -5);
        walk(x, "g1,2,", -6);
        walk(x, "g1,2,0", -7);
        walk(x, "g1,2,0*", -8);
        walk(x, "g1,2,0,1", -7);
        walk(x, "g1,2,0*1;", -10);
        walk(x, "g1,2,0*1x", -9);
        walk(x, "s", -2);
        walk(x, "s1;;s1", -4);
        walk(x, "s 1", -2);
        walk(x, "j", -2);
        walk(x, "j-", -3);
        walk(x, "j--1", -3);
        walk(x, "w", -2);
        walk(x, "w-1", -2);
        walk(x, "s-1", -2);
        walk(x, new String(new char[] {'s', '1', 0}), -3);
        walk(x, new String(new char[] {'s', '1', 255}), -3);
        for (int i : new int[] {-1, 4, Integer.MAX_VALUE}) {
            Spell.text(x, "zz");
            DUE.is("walk(" + i + ")", x.walk(i), -100);
            DUE.is("walk(" + i + ") empties THE TEXT", x.count(8), 0);
        }
    }

    private static void walkNumbers() {
        CoffeeThatSlops x = new CoffeeThatSlops();
        walk(x, "g200,2,0*1", 2);
        walk(x, "g201,2,0*1", -4);
        walk(x, "g999", -4);
        walk(x, "g2010", -4);
        walk(x, "g1000,2,0*1", -5);
        walk(x, "g1,1,0*1", -4);
        walk(x, "g1,01,0*1", -5);
        walk(x, "g1,1x", -4);
        walk(x, "g1,41,0*1", -5);
        walk(x, "g1,410,0*1", -6);
        walk(x, "g1,2,201*1", -8);
        walk(x, "g1,2,0*0", -8);
        walk(x, "g1,2,0*51", -9);
        walk(x, "g1,2,0*50", 100);
        walk(x, "s0", -2);
        walk(x, "s00", -3);
        walk(x, "s000", -4);
        walk(x, "s100", -4);
        walk(x, "s0001", -4);
        walk(x, "s0012", -5);
        walk(x, "s0990", -5);
        walk(x, "j201", -4);
        walk(x, "j-201", -5);
        walk(x, "w51", -3);
        walk(x, "w510", -4);
        walk(x, "w050", 0);
        walk(x, "w0500", -5);
    }

    private static void walkTooLong() {
        CoffeeThatSlops x = new CoffeeThatSlops();
        String sixty = "j1;".repeat(19) + "j12";
        DUE.is("sixty", sixty.length(), 60);
        walk(x, sixty, 20);
        walk(x, sixty + ";", -61);
        walk(x, sixty + "3", -61);
        walk(x, sixty + "x", -61);
        walk(x, "j1;".repeat(20), -61);
        walk(x, "j1;".repeat(20) + "x", -61);
        walk(x, "j1;".repeat(19) + "s0x" + "5", -59);
        walk(x, "j1;".repeat(19) + "s00" + "5", -60);
        walk(x, "j1;".repeat(19) + "s05" + "0", -61);
        walk(x, "j1;".repeat(19) + "j20" + "1", -61);
        walk(x, "j1;".repeat(19) + "w51" + "1", -60);
        walk(x, "j1;".repeat(19) + "xj1;", -58);
        walk(x, "s99;".repeat(10) + "g1,2,0*1;g1,2,0*0001" + ";", -59);
    }

    private static void walkTooManyTicks() {
        CoffeeThatSlops x = new CoffeeThatSlops();
        String most = "g1,40,0*25";
        walk(x, most + ";s1", -13);
        walk(x, most + ";s01x", -14);
        walk(x, most + ";j-5", -14);
        walk(x, most + ";j200;s1", -15);
        walk(x, most + ";w9", 1000);
        walk(x, most + ";g1,2,0*1;", -19);
        walk(x, "g1,40,0*26", -10);
        walk(x, "s99;".repeat(10) + "s9;j0", 1000);
        walk(x, "s99;".repeat(10) + "s9;s1", 1000);
        walk(x, "s99;".repeat(10) + "s9;s2", -1 - 44);
        walk(x, "s1;" + most, -13);
        walk(x, "s99;".repeat(10) + "s10;j0", -1 - 45);
        walk(x, most + ";j201", -15);
        walk(x, most + ";s", -13);
        // the number is told no further than in the first 60, and by that it is not too great
        walk(x, "s99;".repeat(10) + "w1;w1;w1;w1;w1;w1;s10", -61);
        walk(x, "s99;".repeat(10) + "w1;w1;w1;w1;w1;w01;s10", -61);
        walk(x, "s99;".repeat(10) + "w1;w1;w1;w1;w10;s11;s1", -1 - 58);
    }

    private static void walkLeavesTheOld() {
        CoffeeThatSlops x = new CoffeeThatSlops();
        walk(x, "g10,4,5*2;s3;j-7", 12);
        DUE.is("a wrong text", Spell.walk(x, 0, "g1,40,0*25;q"), -12);
        DUE.is("the WALK stays", x.steps(0), 2);
        DUE.row("the WALK stays", x, 12, 87, 40);
        DUE.is("a wrong text", Spell.walk(x, 0, "g1,40,0*2;"), -11);
        DUE.is("worst() leaves it", x.worst(3) > 0 && x.stop(3) > 0, true);
        DUE.is("the WALK stays", x.steps(0), 2);
        DUE.row("the WALK stays", x, 12, 87, 40);
        walk(x, "s5", 5);
        walk(x, "", 0);
        DUE.is("empty", x.steps(0), 0);
        DUE.row("empty", x, 0, 0, 0);
    }

    private static void lawWrong() {
        CoffeeThatSlops x = new CoffeeThatSlops();
        String[] good = {"p", "s", "t", "f", "h", "0", "999", "p-s/2", "((((1))))", "---p", "-(-p)", "1--1", "p*-s",
            "(p+s)*(t-f)/h", "(1)", "007", "((((p))))+((((s))))"};
        for (String text : good) {
            law(x, text, 0);
        }
        law(x, "q", -1);
        law(x, "+1", -1);
        law(x, "p-", -3);
        law(x, "p*", -3);
        law(x, "-", -2);
        law(x, "---", -4);
        law(x, "1000", -4);
        law(x, "(p", -3);
        law(x, "(", -2);
        law(x, "()", -2);
        law(x, "p)", -2);
        law(x, "pp", -2);
        law(x, "p s", -2);
        law(x, "p//s", -3);
        law(x, "p+*s", -3);
        law(x, "(((((p", -5);
        law(x, "((((-(p", -6);
        law(x, "((((p)))))", -10);
        law(x, "2p", -2);
        for (int i : new int[] {-1, 3}) {
            Spell.text(x, "p");
            DUE.is("law(" + i + ")", x.law(i), -100);
            DUE.is("law(" + i + ") empties THE TEXT", x.count(8), 0);
        }
        DUE.is("LAWS told", x.count(4), 1);
        Spell.law(x, 2, "7");
        DUE.is("LAWS told", x.count(4), 5);
        law(x, "8*", -3);
        DUE.is("a wrong text leaves the old LAW", x.gives(0, 12), 12);
        law(x, "", 0);
        DUE.is("LAWS told", x.count(4), 4);
    }

    private static void lawTooLong() {
        CoffeeThatSlops x = new CoffeeThatSlops();
        String thirtyNine = "p" + "+1".repeat(19);
        law(x, thirtyNine + "0", 0);
        law(x, thirtyNine + "x", -40);
        law(x, "11+" + "1+".repeat(18) + "1", 0);
        DUE.is("forty signs", x.gives(0, 0), 30);
        law(x, "11+" + "1+".repeat(18) + "1" + "1", -41);
        law(x, "11+" + "1+".repeat(18) + "1" + "x", -41);
        law(x, thirtyNine + "-" + "1", -41);
        law(x, "-".repeat(39) + "1", 0);
        DUE.is("39 signs less", x.gives(0, 0), -1);
        law(x, "-".repeat(40) + "1", -41);
        law(x, "-".repeat(40), -41);
        law(x, "-".repeat(38) + "x1", -39);
    }

    private static void gives() {
        CoffeeThatSlops x = new CoffeeThatSlops();
        x.cup(2, 100, 80);
        x.set(2, 4);
        Object[][] laws = {{"p", 50}, {"2*3+4", 10}, {"2+3*4", 14}, {"(2+3)*4", 20}, {"20-3-4", 13}, {"100/7/2", 7},
            {"100/(7/2)", 33}, {"-7/2", -3}, {"7/-2", -3}, {"7/0", 0}, {"0-7*2/3", -4}, {"f", 4}, {"h", 80}, {"t", 0},
            {"s", 0}, {"1--1", 2}, {"2*-3", -6}, {"--5", 5}, {"-p*-p", 500}, {"p*p", 500}, {"-p*p", -500},
            {"999*999*999*999", (int) Math.max(-500L, Math.min(500, 999 * 999 * 999 * 999))},
            {"999*999*999/999*p", (int) Math.max(-500L, Math.min(500, 999 * 999 * 999 / 999 * 50))},
            {"p/2*2+h/3-f", 50 + 26 - 4}, {"8/2*3", 12}, {"(p-h)/(f-f)", 0}};
        for (Object[] law : laws) {
            law(x, (String) law[0], 0);
            DUE.is("gives by " + law[0], x.gives(0, 50), (Integer) law[1]);
        }
        law(x, "128*256*256*256/-1/999/999/99", 0);
        DUE.is("the least int by -1", x.gives(0, 0), -21);
        law(x, "p", 0);
        DUE.is("gives", x.gives(0, 500), 500);
        DUE.is("gives", x.gives(0, -500), -500);
        int[][] wrong = {{0, 501}, {0, -501}, {1, 0}, {3, 0}, {-1, 0}};
        for (int[] w : wrong) {
            DUE.noSuch("gives(" + w[0] + ", " + w[1] + ")", () -> x.gives(w[0], w[1]));
        }
    }

    private static void givesLate() {
        CoffeeThatSlops x = new CoffeeThatSlops();
        x.cup(2, 100, 50);
        law(x, "s", 0);
        Spell.law(x, 1, "t*100+h");
        int[] began = new int[31];
        for (int t = 0; t < 30; t++) {
            began[t] = x.of(0, 0);
            x.tick(60 - 9 * t, 0);
        }
        began[30] = x.of(0, 0);
        for (int late = 0; late <= 20; late++) {
            x.set(5, late);
            DUE.is("SLOPE seen " + late + " late", x.gives(0, 0), began[30 - late]);
        }
        x.keep(1);
        x.fresh();
        x.tilt(0, 20);
        for (int late = 0; late <= 20; late++) {
            x.set(5, late);
            DUE.is("FRESH, " + late + " late", x.gives(0, 0), late == 0 ? 40 : 0);
        }
        x.tick(0, 0);
        x.tilt(0, -5);
        int[] seen = {-10, 40, 0, 0};
        for (int late = 0; late < seen.length; late++) {
            x.set(5, late);
            DUE.is("a TICK behind the tilt, " + late + " late", x.gives(0, 0), seen[late]);
        }
        DUE.is("the TICK and the first CELL now", x.gives(1, 0), 145);
        x.again(1);
        for (int late = 0; late <= 20; late++) {
            x.set(5, late);
            DUE.is("again, " + late + " late", x.gives(0, 0), began[30 - late]);
        }
    }

    private static void steps() {
        CoffeeThatSlops x = new CoffeeThatSlops();
        walk(x, "g10,5,7*3;s4;j-9;g2,2,1*2", 24);
        DUE.is("steps", x.steps(0), 5);
        DUE.row("steps", x, 24, 10 * 15 + 9 + 2 * 4, 7 * 15 + 4);
        walk(x, "w50;g10,2,0*1;j200", 3);
        DUE.is("steps", x.steps(0), 1);
        DUE.row("steps", x, 3, 220, 0);
        DUE.is("steps(-1)", x.steps(-1), -1);
        DUE.is("steps(4)", x.steps(4), -1);
        DUE.row("refused steps() leaves the ROW", x, 3, 220, 0);
    }

    /** A walk is what its pushes are, tick by tick. */
    private static void goes() {
        int[] along = {9, 9, -9, -9, -9, 9, 9, -9, -9, -9, 0, 0, -70, 5, -5, 5, -5};
        int[] across = {60, 60, 60, 60, 60, -60, -60, -60, -60, -60, 0, 0, 0, 4, 4, -4, -4};
        CoffeeThatSlops x = Spell.cup(4, 30, 26, "g9,5,60*2;s2;j-70;g5,2,4*2");
        CoffeeThatSlops y = Spell.cup(4, 30, 26, "");
        int spilt = 0;
        for (int i = 0; i < along.length; i++) {
            int in = y.tick(along[i], across[i]);
            spilt += in;
            DUE.is("go, TICK " + i, x.go(0, i, 1), in);
            alike("go, TICK " + i, x, y);
        }
        DUE.is("something is spilt", spilt > 0, true);
        x.fresh();
        DUE.is("go, all", x.go(0, 0, 1000), spilt);
        alike("go, all", x, y);
        DUE.is("go goes on", x.count(3), along.length);
        DUE.is("go, none", x.go(0, 17, 5), 0);
        DUE.is("go, none", x.go(0, 3, 0), 0);
        DUE.is("go, none", x.go(0, 1000, 1000), 0);
        alike("go, none", x, y);
        int[][] wrong = {{-1, 0, 1}, {4, 0, 1}, {0, -1, 1}, {0, 1001, 1}, {0, 0, -1}, {0, 0, 1001}};
        for (int[] w : wrong) {
            DUE.is("go refused", x.go(w[0], w[1], w[2]), -1);
        }
        alike("go refused", x, y);
        y.fresh();
        x.fresh();
        x.go(0, 4, 3);
        for (int i = 4; i < 7; i++) {
            y.tick(along[i], across[i]);
        }
        alike("go, from the middle", x, y);
    }

    private static void goesWandering() {
        CoffeeThatSlops x = Spell.cup(4, 90, 60, "j10;w3;g9,2,6*1;s1;j-7;w0;s1;w50;j0");
        CoffeeThatSlops y = Spell.cup(4, 90, 60, "");
        int[] along = {10, 9, -9, 0, -7, 0, 0};
        int[] across = {0, 6, 6, 0, 0, 0, 0};
        int[] wander = {0, 3, 3, 3, 3, 0, 50};
        for (int seed : new int[] {1, 77, -5, Integer.MIN_VALUE}) {
            int r = seed;
            x.seed(seed);
            x.fresh();
            y.fresh();
            for (int i = 0; i < along.length; i++) {
                int push = along[i];
                if (wander[i] > 0) {
                    r = r * 1103515245 + 12345;
                    push += (int) ((r & 0xffffffffL) / 65536 % (2 * wander[i] + 1)) - wander[i];
                }
                y.tick(push, across[i]);
            }
            x.go(0, 0, 1000);
            alike("go wandering, R " + seed, x, y);
            DUE.is("R went on", x.seed(seed), r);
        }
    }

    private static void goesByHand() {
        CoffeeThatSlops x = Spell.cup(4, 90, 60, "g30,4,9*3;w9;g30,4,9*3");
        CoffeeThatSlops y = Spell.cup(4, 90, 60, "");
        Spell.law(x, 1, "p*2-s/2+t-h/9");
        Spell.law(y, 0, "p*2-s/2+t-h/9");
        x.set(5, 2);
        y.set(5, 2);
        x.set(6, 1);
        int r = 1;
        for (int i = 0; i < 24; i++) {
            int push = i % 4 < 2 ? 30 : -30;
            if (i >= 12) {
                r = r * 1103515245 + 12345;
                push += (r >>> 16) % 19 - 9;
            }
            y.tick(y.gives(0, push), i / 4 % 2 == 0 ? 9 : -9);
        }
        x.go(0, 0, 24);
        alike("go by a LAW", x, y);
        x.set(6, 2);
        x.fresh();
        x.seed(1);
        x.go(0, 0, 9);
        CoffeeThatSlops z = Spell.cup(4, 90, 60, "g30,4,9*3;w9;g30,4,9*3");
        z.go(0, 0, 9);
        alike("go by a LAW that is not told", x, z);
    }

    private static void alike(String call, CoffeeThatSlops x, CoffeeThatSlops y) {
        for (int row = 0; row < 2; row++) {
            for (int c = 0; c < x.count(0); c++) {
                DUE.is(call + ": HEIGHT", x.cell(row, c, 0), y.cell(row, c, 0));
                DUE.is(call + ": FLOW", x.cell(row, c, 1), y.cell(row, c, 1));
            }
            DUE.is(call + ": SPILT", x.of(row, 1), y.of(row, 1));
        }
        DUE.is(call + ": TICK", x.count(3), y.count(3));
    }

    private static void walk(CoffeeThatSlops x, String text, long want) {
        DUE.is("walk " + text, Spell.walk(x, 0, text), want);
        DUE.is("walk " + text + " empties THE TEXT", x.count(8), 0);
    }

    private static void law(CoffeeThatSlops x, String text, long want) {
        DUE.is("law " + text, Spell.law(x, 0, text), want);
        DUE.is("law " + text + " empties THE TEXT", x.count(8), 0);
    }
}
