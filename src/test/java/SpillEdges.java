/** Boundary cases of promises 21 to 26: what spills. */
final class SpillEdges {
    private final Edges e;

    private SpillEdges(Edges e) {
        this.e = e;
    }

    static void run(Edges e) {
        SpillEdges s = new SpillEdges(e);
        s.ofWould();
        s.ofOdds();
        s.ofFullAndLeads();
        s.ofPlan();
        s.ofHelps();
    }

    private void ofWould() {
        e.test(21, "The whole WALK, FRESH, R v, by THE HAND: how it would be: what was SPILT", this::wouldSpill);
        e.test(21, "the ROW: the TICK in which it was first (NONE)", this::wouldFirst);
        e.test(21, "its STEP (NONE, also if that TICK is of none)", this::wouldStep);
        e.test(21, "the greatest HEIGHT of any end CELL at any TICK's end (0 without TICKS).", this::wouldGreatest);
        e.test(21, "R v", this::wouldSeeds);
        e.test(21, "NONE: none such.", () -> noSuchWalk("would(%d, 1)"));
    }

    private void ofOdds() {
        e.test(22, "Of n (1 .. 20) ways to wander, R 1, 2, .. n, the share in which something is SPILT", this::oddsWays);
        e.test(22, "Fractions are told in lowest terms, upper and lower number (0 by 1).", this::oddsLowest);
        e.test(22, "then the STEP in which it is first the most often (of equal ones the least; NONE, if in none).",
            this::oddsStep);
        e.test(22, "0; NONE: others.", this::oddsRefused);
    }

    private void ofFullAndLeads() {
        e.test(23, "Of FILLS RIM times k by 20 (cut), k 0 .. 20, the greatest with which nothing would be SPILT, R 1: it.",
            this::full);
        e.test(23, "-2: none; NONE: none such.", this::fullRefused);
        e.test(24, "Where a WALK leads: so many metres (0 .. 99; at first 0): what it was.", this::leads);
        e.test(24, "Refused: others.", this::leadsRefused);
    }

    private void ofPlan() {
        e.test(25, "rows of 1 to 4 WALKS that lead somewhere (metres above 0)", this::planRows);
        e.test(25, "one behind the other, FRESH, R 1, by THE HAND", this::planOneBehindTheOther);
        e.test(25, "that lead so many metres (1 .. 400) at least together", this::planMetres);
        e.test(25, "none being needless at its end (without the last one they lead less), with nothing SPILT",
            this::planSpills);
        e.test(25,
            "the fewest TICKS; of equal ones the least row (a shorter one that begins alike first): TICKS; the ROW: it.",
            this::planLeast);
        e.test(25, "Rows of numbers are compared from the first on.", this::planCompared);
        e.test(25, "-2: none; NONE: others.", this::planRefused);
    }

    private void ofHelps() {
        e.test(26, "of LATE 0 .. 20 those (bits) with which less would be SPILT by a LAW than without any, R 1",
            this::helpsBits);
        e.test(26, "the ROW: what is SPILT without, the least by any LATE, the first such LATE.", this::helpsRow);
        e.test(26, "NONE: others, no such LAW.", this::helpsRefused);
    }

    /** A call that asks for a WALK (%d) is refused for all that are none. */
    private void noSuchWalk(String call) {
        Asked x = e.cup("steps(0)");
        for (int walk : new int[] {-1, 4, 5, Integer.MAX_VALUE, Integer.MIN_VALUE}) {
            x.none(String.format(call, walk));
        }
        x.row(0, 0, 0);
        for (int walk : new int[] {0, 3}) {
            e.is(String.format(call, walk) + " is not refused", x.answerOf(String.format(call, walk)) != -1, true);
        }
    }

    /** Nothing is lost, and 8 of a PUSH let 1 go from one of two CELLS to the other in the first TICK. */
    private Asked plain(int rim, int fill, String walk) {
        return e.cup("cup(2, " + rim + ", " + fill + ")", "set(0, 1)", "set(1, 0)").walks(0, walk);
    }

    private void wouldSpill() {
        plain(100, 80, "j160").is("would(0, 1)", 0).row(-1, -1, 100);
        plain(100, 80, "j168").is("would(0, 1)", 1).row(0, -1, 100);
        plain(100, 80, "j-168").is("would(0, 1)", 1).row(0, -1, 100);
        // ACROSS counts as well
        plain(100, 80, "g0,2,160*1").does("set(0, 16)").is("would(0, 1)", 35).row(1, 0, 100);
        plain(100, 99, "s9").is("would(0, 1)", 0).does("tick(500, 500)", "tick(500, 500)").is("would(0, 1)", 0)
            .is("count(3)", 2);
    }

    private void wouldFirst() {
        plain(100, 80, "j200").is("would(0, 1)", 5).row(0, -1, 100);
        plain(100, 80, "s99;j200").is("would(0, 1)", 5).row(99, -1, 100);
        plain(100, 80, "j200;j200").is("would(0, 1)", 5 + 49).row(0, -1, 100);
        plain(100, 80, "s9").is("would(0, 1)", 0).row(-1, -1, 80);
        // the last of 1000 TICKS
        plain(100, 80, "s99;".repeat(10) + "s9;j200").is("would(0, 1)", 5).row(999, -1, 100);
        plain(100, 80, "").is("would(0, 1)", 0).row(-1, -1, 0);
    }

    private void wouldStep() {
        plain(100, 80, "g200,2,0*1").is("would(0, 1)", 5).row(0, 0, 100);
        plain(100, 80, "s1;g0,2,0*2;g200,2,0*1").is("would(0, 1)", 5).row(5, 2, 100);
        plain(100, 80, "g0,2,0*1;j200").is("would(0, 1)", 5).row(2, -1, 100);
        plain(100, 80, "s2;j200;g0,2,0*1").does("set(1, 50)").is("would(0, 1)", 1).row(4, 0, 100);
        plain(100, 80, "g0,2,0*1").is("would(0, 1)", 0).row(-1, -1, 80);
        plain(100, 80, "g0,2,0*50;g0,2,0*50;g0,2,0*50;g200,2,0*1").is("would(0, 1)", 5).row(300, 150, 100);
    }

    private void wouldGreatest() {
        plain(100, 80, "").is("would(0, 1)", 0).row(-1, -1, 0);
        plain(100, 80, "w50;w0").is("would(0, 1)", 0).row(-1, -1, 0);
        plain(100, 80, "s1").is("would(0, 1)", 0).row(-1, -1, 80);
        // behind a LID more than RIM may stand, in the first CELL, in the last one, in either ROW
        plain(100, 80, "j200").does("set(4, 100)").is("would(0, 1)", 0).row(-1, -1, 105);
        plain(100, 80, "j-200").does("set(4, 100)").is("would(0, 1)", 0).row(-1, -1, 105);
        plain(100, 80, "g0,2,100*1").does("set(4, 100)", "set(0, 16)").is("would(0, 1)", 0).row(-1, -1, 114);
        // at a TICK's end: 101 of 100 was SPILT by then
        plain(100, 80, "j168").is("would(0, 1)", 1).row(0, -1, 100);
        // a CELL between is no end: there are 88 in it
        e.cup("cup(3, 100, 80)", "set(0, 1)", "set(1, 0)", "wall(1, 0)").walks(0, "j64").is("would(0, 1)", 0)
            .row(-1, -1, 80);
        plain(100, 0, "j200").is("would(0, 1)", 0).row(-1, -1, 0);
    }

    private void wouldSeeds() {
        Asked x = plain(20, 16, "w50;s9").does("seed(5)");
        for (int seed : new int[] {0, 1, -1, Integer.MAX_VALUE, Integer.MIN_VALUE}) {
            int spilt = x.answerOf("would(0, " + seed + ")");
            x.does("fresh()", "seed(" + seed + ")").is("go(0, 0, 9)", spilt).does("seed(5)");
            x.is("would(0, " + seed + ")", spilt).is("seed(5)", 5);
        }
    }

    private void oddsWays() {
        e.cup("cup(3, 31, 21)").walks(0, "w8;g5,7,2*2").is("odds(0, 1)", 0).row(0, 1, -1).is("odds(0, 20)", 0).row(1, 20, 1);
        plain(8, 8, "j200").is("odds(0, 1)", 0).row(1, 1, -1).is("odds(0, 20)", 0).row(1, 1, -1);
        Asked x = plain(20, 19, "w50;g0,2,0*1").does("seed(77)");
        int ways = 0;
        for (int n = 1; n <= 20; n++) {
            ways += x.answerOf("would(0, " + n + ")") > 0 ? 1 : 0;
            int common = common(ways, n);
            x.is("odds(0, " + n + ")", 0).is("row(0)", ways / common).is("row(1)", n / common).is("count(7)", 3);
        }
        x.is("seed(1)", 77);
    }

    private static int common(int one, int other) {
        return other == 0 ? one : common(other, one % other);
    }

    private void oddsLowest() {
        plain(8, 4, "s1").is("odds(0, 1)", 0).row(0, 1, -1).is("odds(0, 20)", 0).row(0, 1, -1);
        plain(8, 8, "g200,2,0*1").is("odds(0, 20)", 0).row(1, 1, 0).is("odds(0, 1)", 0).row(1, 1, 0);
        e.cup("cup(6, 85, 56)").walks(0, "w21;g44,5,4*2;s2").is("odds(0, 18)", 0).row(13, 18, 1);
        Asked x = e.cup("cup(6, 85, 56)").walks(0, "w21;g44,5,4*2");
        int ways = 0;
        for (int n = 1; n <= 20; n++) {
            ways += x.answerOf("would(0, " + n + ")") > 0 ? 1 : 0;
        }
        x.is("odds(0, 20)", 0).is("row(0)", ways / common(ways, 20)).is("row(1)", 20 / common(ways, 20));
    }

    private void oddsStep() {
        // by R 1 it is first in STEP 2, by R 2 in STEP 1: of equal ones the least
        Asked x = e.cup("cup(4, 76, 52)", "set(0, 10)").walks(0, "w6;g48,5,5*3").is("would(0, 1)", 25).row(12, 2, 76);
        x.is("would(0, 2)", 39).row(9, 1, 76).is("odds(0, 1)", 0).row(1, 1, 2).is("odds(0, 2)", 0).row(1, 1, 1);
        // always in a TICK of no STEP: in none
        e.cup("cup(4, 7, 3)").walks(0, "j62").is("odds(0, 4)", 0).row(1, 1, -1);
        // 7 times in a TICK of no STEP, 6 times in STEP 1: the STEP is told
        e.cup("cup(6, 85, 56)").walks(0, "w21;g44,5,4*2;s2").is("odds(0, 18)", 0).row(13, 18, 1);
        e.cup().is("odds(0, 20)", 0).row(0, 1, -1);
    }

    private void oddsRefused() {
        e.cup("steps(0)").none("odds(-1, 5)", "odds(4, 5)", "odds(0, 0)", "odds(0, 21)", "odds(0, -1)", "odds(4, 0)")
            .none("odds(MAX, 5)", "odds(MIN, 5)", "odds(0, MAX)")
            .none("odds(0, MIN)").row(0, 0, 0).is("odds(3, 1)", 0).is("odds(0, 20)", 0);
    }

    private void full() {
        // so many go to the last CELL: FILLS of RIM 30 are .. 25 (25.5, cut), 27, 28 (28.5, cut), 30
        int[][] due = {{7, 30}, {8, 28}, {16, 28}, {24, 27}, {32, 25}};
        for (int[] d : due) {
            plain(30, 4, "j" + d[0]).is("full(0)", d[1]).is("count(2)", 4);
        }
        plain(1, 1, "s1").is("full(0)", 1);
        plain(1, 1, "j200").is("full(0)", 0);
        plain(999, 1, "s1").is("full(0)", 999);
        plain(999, 1, "").is("full(0)", 999);
        // what is in the first CELL comes to the second: 2 and 2 are not above 5
        plain(5, 1, "j200").is("full(0)", 2);
    }

    private void fullRefused() {
        noSuchWalk("full(%d)");
        // an empty cup spills nothing, so that there is always one
        e.cup("cup(20, 19, 19)", "set(0, 16)", "set(1, 0)", "steps(0)").walks(0, "g200,40,200*25").is("full(0)", 0)
            .row(0, 0, 0);
    }

    private void leads() {
        Asked x = e.cup();
        for (int walk = 0; walk <= 3; walk++) {
            String leads = "leads(" + walk + ", ";
            x.is(leads + "99)", 0).is(leads + "0)", 99).is(leads + "0)", 0).is(leads + "1)", 0).is(leads + "1)", 1);
        }
    }

    private void leadsRefused() {
        e.cup("leads(0, 7)", "leads(3, 8)").none("leads(0, -1)", "leads(0, 100)", "leads(-1, 1)", "leads(4, 1)")
            .none("leads(0, MAX)", "leads(0, MIN)", "leads(MAX, 1)")
            .none("leads(MIN, 1)").is("leads(0, 0)", 7).is("leads(3, 0)", 8).is("leads(1, 0)", 0);
    }

    private void planRows() {
        Asked x = e.cup("leads(0, 1)").walks(0, "s1").is("plan(1)", 1).row(0).is("plan(4)", 4).row(0, 0, 0, 0);
        x.is("plan(5)", -2).row(0, 0, 0, 0).does("leads(3, 2)").walks(3, "s9").is("plan(5)", 12).row(0, 0, 0, 3);
        // a WALK that leads nowhere is in no row, were it the soonest
        e.cup("leads(0, 5)").walks(0, "s9").walks(1, "").is("plan(5)", 9).row(0).does("leads(0, 0)").is("plan(5)", -2)
            .is("plan(1)", -2).row(0);
    }

    private void planOneBehindTheOther() {
        // the first WALK in a FRESH cup, the second in what it leaves: behind the jerk 11 TICKS more would spill
        Asked x = e.cup("cup(8, 16, 7)", "leads(0, 5)", "leads(1, 6)").walks(0, "j33").walks(1, "s11").is("plan(11)", 12);
        x.row(1, 0).does("tick(300, 300)", "tick(99, -99)", "seed(9)").is("plan(11)", 12).row(1, 0).is("seed(9)", 9);
        // by a hand that steadies what it sees ALONG nothing is SPILT
        e.cup("leads(0, 5)").law(0, "p+s", 0).walks(0, "g30,6,0*4").is("plan(5)", -2).does("set(6, 0)").is("plan(5)", 24)
            .row(0);
        // the TICK goes on through all WALKS: from TICK 3 on the LAW pushes
        e.cup("cup(2, 99, 99)", "set(6, 1)", "leads(0, 1)").law(1, "t/3*300", 0).walks(0, "s2").is("plan(1)", 2).row(0)
            .is("plan(2)", -2).does("set(6, 3)").is("plan(2)", 4).row(0, 0);
        // so does R: the first DRAWS less 50 are 22, -5, -37, 36, so that 2, 2, -2, 2 go over; twice 22 would let 5 go
        plain(14, 10, "w50;s1").does("leads(0, 1)").is("plan(2)", 2).row(0, 0).is("plan(4)", 4).row(0, 0, 0, 0);
        plain(13, 10, "w50;s1").does("leads(0, 1)").is("plan(2)", -2).is("plan(1)", 1).row(0);
        plain(11, 10, "w50;s1").does("leads(0, 1)").is("plan(1)", -2);
    }

    private void planMetres() {
        Asked x = e.cup("leads(0, 99)").walks(0, "s1").is("plan(99)", 1).row(0).is("plan(100)", 2).row(0, 0);
        x.is("plan(396)", 4).row(0, 0, 0, 0).is("plan(397)", -2).is("plan(400)", -2).none("plan(401)", "plan(0)");
        x.row(0, 0, 0, 0).is("plan(1)", 1).row(0);
        e.cup("leads(2, 1)").walks(2, "s5").is("plan(1)", 5).row(2).none("plan(0)").row(2);
    }

    private void planSpills() {
        // the soonest would spill; one that just comes to the RIM would not
        Asked x = plain(100, 80, "j168").does("leads(0, 5)", "leads(1, 5)").walks(1, "s9").is("plan(5)", 9).row(1);
        x.walks(0, "j160").is("plan(5)", 1).row(0).does("cup(2, 99, 80)").is("plan(5)", 9).row(1);
        x.does("set(4, 100)").is("plan(5)", 1).row(0);
        // needless: the first one leads far enough; not needless: the one behind it leads further than it must
        Asked y = e.cup("leads(0, 5)", "leads(1, 1)").walks(0, "s4").walks(1, "").is("plan(5)", 4).row(0).is("plan(1)", 0);
        y.row(1).is("plan(6)", 4).row(0, 1).does("leads(1, 9)").is("plan(6)", 0).row(1).is("plan(18)", 0).row(1, 1);
    }

    private void planLeast() {
        Asked x = e.cup("leads(0, 10)", "leads(1, 5)", "leads(2, 5)").walks(0, "s9").walks(1, "s4").walks(2, "s4");
        x.is("plan(10)", 8).row(1, 1).is("plan(15)", 12).row(1, 1, 1).is("plan(25)", 21).row(0, 1, 1, 1);
        x.walks(0, "s8").is("plan(10)", 8).row(0).is("plan(20)", 16).row(0, 0).is("plan(15)", 12).row(0, 1);
        x.walks(0, "").is("plan(40)", 0).row(0, 0, 0, 0).is("plan(1)", 0).row(0);
        // 4000 TICKS
        e.cup("leads(3, 1)").walks(3, "g0,40,0*25").is("plan(4)", 4000).row(3, 3, 3, 3);
    }

    private void planCompared() {
        // all of these rows have 4 TICKS and lead 5 at least: 0, 0, 0, 1 and 0, 0, 1 and 0, 1 and 1 and 1 with 0 ahead
        e.cup("leads(0, 1)", "leads(1, 5)").walks(0, "").walks(1, "s4").is("plan(5)", 4).row(0, 0, 0, 1);
        // 0, 3 and 1: the longer one is the less
        e.cup("leads(0, 3)", "leads(1, 5)", "leads(3, 2)").walks(0, "s2").walks(1, "s4").walks(3, "s2").is("plan(5)", 4)
            .row(0, 0).walks(0, "s3").is("plan(5)", 4).row(1).walks(3, "s1").is("plan(5)", 3).row(3, 3, 3)
            .walks(3, "s2").walks(0, "s2").does("leads(0, 2)", "leads(3, 3)").is("plan(5)", 4).row(0, 3);
    }

    private void planRefused() {
        e.cup("steps(0)").none("plan(0)", "plan(401)", "plan(-1)", "plan(MAX)", "plan(MIN)")
            .is("plan(1)", -2).is("plan(400)", -2).row(0, 0, 0);
    }

    private void helpsBits() {
        // one that holds still always helps; one that gives what it gets never does: as much is not less
        plain(100, 98, "g100,4,0*2").law(2, "0", 0).law(0, "p", 0).is("helps(0, 2)", (1 << 21) - 1).row(91, 0, 0)
            .is("helps(0, 0)", 0).row(91, 91, 0);
        e.cup("cup(6, 27, 16)", "set(5, 3)").walks(0, "g24,9,3*3").law(0, "p-s", 0).is("helps(0, 0)", 1 << 20)
            .row(32, 29, 20).is("set(5, 3)", 3);
        e.cup("cup(2, 32, 25)", "set(1, 5)").walks(0, "j-43;j161").law(0, "p-s", 0).is("helps(0, 0)", 1).row(2, 1, 0);
        e.cup().walks(0, "s9").law(1, "p*9", 0).is("helps(0, 1)", 0).row(0, 0, 0).is("helps(3, 1)", 0).row(0, 0, 0);
    }

    private void helpsRow() {
        e.cup("cup(4, 71, 69)").walks(0, "g36,5,5*2").law(0, "p-s", 0).is("helps(0, 0)", 240).row(31, 23, 6);
        e.cup("cup(2, 20, 15)", "set(1, 0)").walks(0, "g21,3,58*2").law(0, "p-s", 0).is("helps(0, 0)", 31).row(13, 11, 1);
        // R 1: with R 0 there were 9, with R 2 10
        plain(14, 12, "w50;s4").is("would(0, 0)", 9).is("would(0, 2)", 10).law(0, "0", 0).does("seed(2)")
            .is("helps(0, 0)", (1 << 21) - 1).row(2, 0, 0);
        // none is less: the least is more than without any, and THE HAND is of no matter
        plain(100, 98, "g9,4,0*2").law(0, "500", 0).does("set(6, 0)").is("helps(0, 0)", 0).row(6, 96, 0);
    }

    private void helpsRefused() {
        Asked x = e.cup("steps(0)").law(1, "p", 0).none("helps(-1, 1)", "helps(4, 1)", "helps(0, 0)", "helps(0, 2)",
            "helps(0, 3)");
        x.none("helps(0, -1)", "helps(MAX, 1)", "helps(MIN, 1)", "helps(0, MAX)");
        x.none("helps(0, MIN)", "helps(4, 3)").row(0, 0, 0).is("helps(3, 1)", 0).law(1, "", 0).none("helps(0, 1)");
    }
}
