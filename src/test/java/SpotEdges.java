/** Boundary cases of promises 39 to 45: spots on the floor, films of a hand. */
final class SpotEdges {
    /** 990 TICKS in 40 signs. */
    private static final String MANY = "s99;".repeat(10);

    private final Edges e;

    private SpotEdges(Edges e) {
        this.e = e;
    }

    static void run(Edges e) {
        SpotEdges s = new SpotEdges(e);
        e.test(39, "A spot of a TICK (0 .. 1000) more: how many.", s::spot);
        e.test(39, "Refused: others, 12.", s::spotRefused);
        e.test(40, "The spots are wiped: how many.", s::wipe);
        s.ofFarAndWho();
        s.ofFilms();
    }

    private void ofFarAndWho() {
        e.test(41, "How far spots are from how a WALK by a hand (0 .. 3) would spill, R 1", this::farByHands);
        e.test(41, "of each spot to the nearest TICK in which something is SPILT (1000, if there is none)", this::farSpots);
        e.test(41, "of each such TICK to the nearest spot (1000, if there is none): the sum of both.", this::farTicks);
        e.test(41, "NONE: others, no such LAW, no such WALK.", this::farRefused);
        e.test(42,
            "The WALK (that has TICKS) and the hand (LAWS that are told, and none: 3) from which the spots are the least "
            + "far", this::who);
        e.test(42, "of equal ones the first WALK, then the least hand: how far; the ROW: both, how many are so.",
            this::whoFirst);
        e.test(42, "-2: no WALK has TICKS.", this::whoNone);
    }

    private void ofFilms() {
        e.test(43,
            "A film shows that for a PUSH (-500 .. 500), SLOPE (-999 .. 999) being seen, at a TICK (0 .. 1000), so much "
            + "(-500 .. 500) was given", this::film);
        e.test(43, "h FILL, FOAM as it is: how many films.", this::filmThings);
        e.test(43, "Refused: others, 20.", this::filmRefused);
        e.test(44, "By a LAW, of films: how many it tells within so much (0 .. 99) of what was given", this::fitsWithin);
        e.test(44, "the ROW: the sum of how far off all are, the film that is off the most (of equal ones the first; NONE "
            + "without films).", this::fitsRow);
        e.test(44, "NONE: others, no such LAW.", this::fitsRefused);
        e.test(45, "Of LAWS p * a / 10 - s * b / 10 (each cut, then put to -500 .. 500), a 0 .. 20, b 0 .. 20",
            this::readsLaws);
        e.test(45, "the one that is off the least in sum over all films: the ROW: a, b, that: of equal ones the least row.",
            this::readsLeast);
        e.test(45, "0; NONE: no films.", () -> e.cup("steps(0)").none("reads()").row(0, 0, 0).does("film(0, 0, 0, 0)")
            .is("reads()", 0).row(0, 0, 0));
    }

    /** Half of all FLOW is lost: a jerk of 16 lets 1 go over the RIM in its TICK, and nothing behind it. */
    private Asked dull(String walk) {
        return e.cup("cup(2, 100, 100)", "set(0, 1)", "set(1, 50)").walks(0, walk);
    }

    private void spot() {
        Asked x = e.cup().is("spot(0)", 1).is("spot(1000)", 2).is("spot(0)", 3).none("spot(-1)", "spot(1001)")
            .is("count(5)", 3);
        for (int i = 4; i <= 12; i++) {
            x.is("spot(" + i + ")", i);
        }
        x.none("spot(5)").is("count(5)", 12);
    }

    private void spotRefused() {
        Asked x = e.cup().none("spot(-1)", "spot(1001)", "spot(MAX)", "spot(MIN)").is("count(5)", 0);
        for (int i = 1; i <= 12; i++) {
            x.is("spot(1000)", i);
        }
        x.none("spot(1000)", "spot(0)", "spot(-1)").is("count(5)", 12).is("wipe()", 12).is("spot(0)", 1);
    }

    private void wipe() {
        Asked x = e.cup().is("wipe()", 0).is("wipe()", 0).does("spot(1)").is("wipe()", 1).is("count(5)", 0).is("wipe()", 0);
        for (int i = 1; i <= 12; i++) {
            x.is("spot(7)", i);
        }
        x.is("wipe()", 12).is("wipe()", 0).is("far(0, 3)", 0);
    }

    private void farByHands() {
        // without a hand it spills in TICK 0; by the first LAW never, by the third in TICK 5
        Asked x = dull("j16;s9").does("spot(4)", "seed(3)", "tick(500, 500)").law(0, "0", 0).law(2, "(t/5-t/6)*16", 0);
        x.is("far(0, 3)", 8).is("far(0, 0)", 1000).is("far(0, 2)", 2).none("far(0, 1)", "far(0, 4)", "far(0, -1)");
        x.is("seed(3)", 3).is("count(3)", 1).is("count(7)", 0);
    }

    private void farSpots() {
        Asked x = dull("s9").is("far(0, 3)", 0).does("spot(0)").is("far(0, 3)", 1000).does("spot(1000)")
            .is("far(0, 3)", 2000);
        x.does("spot(0)").is("far(0, 3)", 3000);
        // SPILT in TICK 0: a spot there, one at 1000 that is 1000 off, one at 999
        x = dull("j16").does("spot(0)").is("far(0, 3)", 0).does("spot(1000)").is("far(0, 3)", 1000).does("spot(999)")
            .is("far(0, 3)", 1999).does("wipe()", "spot(1)").is("far(0, 3)", 2);
        // in TICKS 3 and 8: 5 is nearer to the first, 6 to the second
        dull("s3;j16;s4;j16").does("spot(5)").is("far(0, 3)", 2 + 2 + 3).does("wipe()", "spot(6)")
            .is("far(0, 3)", 2 + 3 + 2);
    }

    private void farTicks() {
        dull("j16").is("far(0, 3)", 1000).does("spot(1000)").is("far(0, 3)", 2000).does("spot(0)").is("far(0, 3)", 1000);
        dull("s3;j16;s4;j16").is("far(0, 3)", 2000).does("spot(3)").is("far(0, 3)", 5).does("spot(8)").is("far(0, 3)", 0);
        dull(MANY + "s9;j16").is("far(0, 3)", 1000).does("spot(0)").is("far(0, 3)", 1998).does("spot(1000)")
            .is("far(0, 3)", 1001);
        // by a hand that gives all that it can, under a LID that lets little go at a time, it spills in many TICKS
        Asked x = e.cup("cup(20, 999, 999)", "set(1, 0)", "set(4, 99)").law(0, "500", 0).walks(0, "g0,40,0*25");
        int far = x.answerOf("far(0, 0)");
        e.is("many TICKS, each 1000 off", far % 1000 == 0 && far > 500_000, true);
    }

    private void farRefused() {
        e.cup("steps(0)", "spot(3)").law(1, "p", 0).none("far(-1, 3)", "far(4, 3)", "far(0, 0)", "far(0, 2)", "far(0, 4)")
            .none("far(0, -1)", "far(MAX, 3)", "far(MIN, 3)", "far(0, MAX)")
            .none("far(0, MIN)").row(0, 0, 0).is("far(3, 3)", 1000).is("far(0, 1)", 1000).law(1, "", 0)
            .none("far(0, 1)");
    }

    private void who() {
        // WALKS without TICKS are none, though no spot would be far from them
        Asked x = dull("").walks(2, "s2;j16").is("who()", 1000).row(2, 3, 1).does("spot(0)").is("who()", 4).row(2, 3, 1);
        x.walks(3, "s1;j16").is("who()", 2).row(3, 3, 1).does("wipe()", "spot(2)").is("who()", 0).row(2, 3, 1);
        // a LAW that is told: it spills in TICK 1 of WALK 3 with what comes of -16
        x.law(1, "-p", 0).walks(2, "").walks(3, "s2;j-16").is("who()", 0).row(3, 1, 2);
        x.walks(0, "w9").is("who()", 0).row(3, 1, 2);
        // R 1: it is SPILT in TICK 1; with R 0 or R 2 it were in others
        Asked y = e.cup("cup(2, 14, 12)", "set(0, 1)", "set(1, 0)", "spot(1)", "seed(2)").walks(0, "w50;s4").is("who()", 0);
        y.row(0, 3, 1).is("far(0, 3)", 0).is("would(0, 0)", 9).is("row(0)", 0).is("would(0, 2)", 10).is("row(0)", 1);
    }

    private void whoFirst() {
        Asked x = e.cup("spot(3)").walks(1, "s3").walks(2, "s3").is("who()", 1000).row(1, 3, 2).law(2, "p", 0)
            .is("who()", 1000);
        x.row(1, 2, 4).law(0, "p", 0).law(1, "p", 0).walks(0, "s1").walks(3, "s1").is("who()", 1000).row(0, 0, 16);
        x.does("wipe()").is("who()", 0).row(0, 0, 16);
        // the first WALK ahead of the least hand
        dull("j16").law(0, "0", 0).walks(1, "j-16").does("spot(0)").is("who()", 0).row(0, 3, 2).law(0, "9", 0).is("who()", 0)
            .row(0, 3, 2).law(0, "16", 0).is("who()", 0).row(0, 0, 4);
    }

    private void whoNone() {
        e.cup("steps(0)", "spot(3)").is("who()", -2).row(0, 0, 0).walks(1, "w9;w0").is("who()", -2).row(0, 0, 0)
            .law(0, "p", 0)
            .is("who()", -2).walks(3, "s1").is("who()", 1000).row(3, 0, 2).walks(3, "").is("who()", -2).row(3, 0, 2);
    }

    private void film() {
        e.cup().is("film(-500, -999, 0, -500)", 1).is("film(500, 999, 1000, 500)", 2).none("film(-501, 0, 0, 0)")
            .none("film(501, 0, 0, 0)", "film(0, -1000, 0, 0)", "film(0, 1000, 0, 0)", "film(0, 0, -1, 0)",
            "film(0, 0, 1001, 0)")
            .none("film(0, 0, 0, -501)", "film(0, 0, 0, 501)").is("count(6)", 2).law(0, "p", 0).is("fits(0, 0)", 2).row(0, 0)
            .law(0, "s", 0).is("fits(0, 0)", 2).row(0, 0).law(0, "t", 0).is("fits(0, 0)", 1).row(500, 0);
    }

    private void filmThings() {
        // h is FILL, whatever the first CELL has; FOAM is as it is when it is asked; LATE is of no matter
        Asked x = e.cup("film(0, 7, 0, 80)", "tilt(0, 9)", "tick(90, 0)").law(0, "h", 0).is("fits(0, 0)", 1).row(0, 0);
        x.law(1, "f", 0).is("fits(1, 0)", 0).row(80, 0).does("set(2, 9)").is("fits(1, 0)", 0).row(71, 0).law(2, "s", 0);
        x.does("set(5, 20)").is("fits(2, 0)", 0).row(73, 0).does("cup(8, 100, 0)").is("fits(0, 79)", 0).row(80, 0);
    }

    private void filmRefused() {
        Asked x = e.cup().none("film(MAX, 0, 0, 0)", "film(MIN, 0, 0, 0)", "film(0, MAX, 0, 0)", "film(0, MIN, 0, 0)",
            "film(0, 0, MAX, 0)", "film(0, 0, MIN, 0)", "film(0, 0, 0, MAX)", "film(0, 0, 0, MIN)").is("count(6)", 0);
        for (int i = 1; i <= 20; i++) {
            x.is("film(" + i + ", 0, 0, 0)", i);
        }
        x.none("film(0, 0, 0, 0)", "film(501, 0, 0, 0)").is("count(6)", 20).law(0, "p", 0).is("fits(0, 20)", 20)
            .row(210, 19);
    }

    private void fitsWithin() {
        // off by 0, 1, 99, 100
        Asked x = e.cup("film(0, 0, 0, 50)", "film(0, 0, 0, 51)", "film(0, 0, 0, 149)", "film(0, 0, 0, 150)")
            .law(1, "50", 0);
        x.is("fits(1, 0)", 1).is("fits(1, 1)", 2).is("fits(1, 98)", 2).is("fits(1, 99)", 3)
            .none("fits(1, 100)", "fits(1, -1)");
        // what the LAW tells is put to its bounds
        x.law(1, "999", 0).is("fits(1, 0)", 0).row(450 + 449 + 351 + 350, 0).does("film(0, 0, 0, 500)").is("fits(1, 0)", 1);
        x.law(1, "-999", 0).is("fits(1, 99)", 0).row(550 + 551 + 649 + 650 + 1000, 4);
    }

    private void fitsRow() {
        Asked x = e.cup().law(0, "0", 0).is("fits(0, 99)", 0).row(0, -1).does("film(0, 0, 0, 0)").is("fits(0, 0)", 1)
            .row(0, 0);
        x.does("film(0, 0, 0, -8)", "film(0, 0, 0, 8)").is("fits(0, 7)", 1).row(16, 1).is("fits(0, 8)", 3).row(16, 1);
        x.does("film(0, 0, 0, 9)").is("fits(0, 8)", 3).row(25, 3).does("film(0, 0, 0, 9)").is("fits(0, 8)", 3).row(34, 3);
        Asked y = e.cup().law(0, "p", 0);
        for (int i = 0; i < 20; i++) {
            y.does("film(500, 0, 0, -500)");
        }
        y.is("fits(0, 99)", 0).row(20000, 0);
    }

    private void fitsRefused() {
        e.cup("steps(0)", "film(0, 0, 0, 0)").law(1, "p", 0).none("fits(0, 0)", "fits(2, 0)", "fits(3, 0)", "fits(-1, 0)")
            .none("fits(1, -1)", "fits(1, 100)", "fits(MAX, 0)", "fits(MIN, 0)")
            .none("fits(1, MAX)", "fits(1, MIN)").row(0, 0, 0).is("fits(1, 99)", 1).row(0, 0)
            .law(1, "", 0).none("fits(1, 0)").row(0, 0);
    }

    private void readsLaws() {
        // a alone, b alone, at both ends
        reads(new int[][] {{500, 0, 0, 500}, {200, 0, 0, 400}}, 20, 0, 0);
        reads(new int[][] {{0, 100, 0, -200}, {0, -100, 0, 200}}, 0, 20, 0);
        reads(new int[][] {{100, 0, 0, 0}, {0, 100, 0, 0}}, 0, 0, 0);
        reads(new int[][] {{100, 0, 0, 210}, {0, 100, 0, -210}}, 20, 20, 20);
        reads(new int[][] {{100, 0, 0, -9}, {0, 100, 0, 9}}, 0, 0, 18);
        // each is cut: 9 * 7 / 10 is 6 and 9 * 3 / 10 is 2
        reads(new int[][] {{9, 0, 0, 6}, {0, 9, 0, -2}, {9, 9, 0, 4}}, 7, 3, 0);
        reads(new int[][] {{-9, 0, 0, -6}, {0, -9, 0, 2}, {-9, -9, 0, -4}}, 7, 3, 0);
        // put to its bounds behind both: 1000 less 600 is 400
        reads(new int[][] {{500, 300, 0, 400}, {100, 0, 0, 200}, {0, 100, 0, -200}}, 20, 20, 0);
        reads(new int[][] {{500, -999, 0, 500}, {100, 0, 0, 200}, {0, 100, 0, -200}}, 20, 20, 0);
        reads(new int[][] {{-500, 999, 0, -500}, {100, 0, 0, 200}, {0, 100, 0, -200}}, 20, 20, 0);
    }

    private void reads(int[][] films, long... want) {
        Asked x = e.cup();
        for (int[] f : films) {
            x.does("film(" + f[0] + ", " + f[1] + ", " + f[2] + ", " + f[3] + ")");
        }
        x.is("reads()", 0).row(want);
    }

    private void readsLeast() {
        reads(new int[][] {{0, 0, 0, 5}}, 0, 0, 5);
        // -9 * 5 / 10 is -4 as -9 * 6 / 10 is not; 2 * 5 / 10 is 1 as 2 * 9 / 10 is
        reads(new int[][] {{2, 0, 0, 1}}, 5, 0, 0);
        reads(new int[][] {{0, 2, 0, -1}}, 0, 5, 0);
        // 1 from a less 0 from b, or 2 less 1: the least a, then the least b
        reads(new int[][] {{1, 1, 0, 1}}, 10, 0, 0);
        int[][] films = new int[20][];
        for (int i = 0; i < films.length; i++) {
            films[i] = new int[] {-500, 999, 1000, 500};
        }
        reads(films, 0, 0, 10000);
    }
}
