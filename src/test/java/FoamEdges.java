/** Boundary cases of promises 27 to 31: foam, walls, lids. */
final class FoamEdges {
    private final Edges e;

    private FoamEdges(Edges e) {
        this.e = e;
    }

    static void run(Edges e) {
        FoamEdges f = new FoamEdges(e);
        e.test(27, "The fewest layers of FOAM (0 .. 9) with which nothing would be SPILT, R 1.", f::layers);
        e.test(27, "-2: nine do not do; NONE: none such.", f::layersRefused);
        f.ofOff();
        f.ofFew();
        e.test(30,
            "The HOLE (0 .. 100) of a wall at a GAP with which the greatest HEIGHT of any end CELL at any TICK's end is "
            + "the least, R 1", f::best);
        e.test(30, "of equal ones the greatest HOLE: it; the ROW: that HEIGHT.", f::bestOfEqualOnes);
        e.test(30, "NONE: others.", f::bestRefused);
        e.test(31, "The least LID (0 .. 100) with which at most so much (0 .. 9999) would be SPILT, R 1.", f::lid);
        e.test(31, "-2: none; NONE: others.", f::lidRefused);
    }

    private void ofOff() {
        e.test(28, "ALONG tilted so (1 .. 500), FRESH, let go (as swing()) for n TICKS (1 .. 400)", this::offTicks);
        e.test(28, "behind TICKS n by 2 (cut, at least 1) .. n", this::offFrom);
        e.test(28, "with k layers (0 .. 9), and with none: the ROW: both", this::offLayers);
        e.test(28, "what is taken off as a fraction of that with none (below 0 it may be; 0 by 1, if that is 0).",
            this::offFraction);
        e.test(28, "Fractions are told in lowest terms, upper and lower number (0 by 1).", this::offLowest);
        e.test(28, "NONE: others.", this::offRefused);
    }

    private void ofFew() {
        e.test(29, "The fewest WALLS more (0 to 2)", this::fewWalls);
        e.test(29, "at GAPS where there is none", this::fewGaps);
        e.test(29, "all of one HOLE (0 .. 99), with which nothing would be SPILT, R 1: how many", this::fewHoles);
        e.test(29, "the ROW: their GAPS: of as few the least row.", this::fewLeastRow);
        e.test(29, "-2: two do not do; NONE: others.", this::fewRefused);
    }

    /** Nothing is lost, and 8 of a PUSH let 1 go from one of two CELLS to the other in the first TICK. */
    private Asked plain(int rim, int fill, String walk) {
        return e.cup("cup(2, " + rim + ", " + fill + ")", "set(0, 1)", "set(1, 0)").walks(0, walk);
    }

    private void layers() {
        // of 125 are lost 2 and 6 hundredths for each layer: with 9 there go 55 by 8, 6; with 8 63 by 8, 7
        e.cup("cup(2, 48, 42)", "set(2, 3)").walks(0, "j-125").is("layers(0)", 9).is("set(2, 0)", 3).is("count(7)", 0)
            .does("cup(2, 49, 42)").is("layers(0)", 8).does("cup(2, 57, 42)").is("layers(0)", 0).does("cup(2, 56, 42)")
            .is("layers(0)", 1).does("cup(2, 47, 42)").is("layers(0)", -2);
        // of 127 there go 7 with 9 layers; with 10 there were 6
        e.cup("cup(2, 48, 42)").walks(0, "j-127").is("layers(0)", -2);
        e.cup("set(2, 9)").is("layers(0)", 0).walks(0, "s9").is("layers(0)", 0);
        // a LAW sees the layers that are tried
        plain(100, 90, "s1").does("set(6, 0)", "set(3, 0)").law(0, "(7-f)*99", 0).is("layers(0)", 7);
    }

    private void layersRefused() {
        Asked x = plain(7, 7, "j30").does("steps(0)").row(1, 30, 0).is("layers(0)", -2).row(1, 30, 0);
        x.none("layers(-1)", "layers(4)", "layers(MAX)", "layers(MIN)").is("layers(3)", 0);
        // without BITE no layer does
        plain(90, 80, "j200").does("set(3, 0)").is("layers(0)", -2);
    }

    /** Of 2 CELLS, STIFF 16; tilted by 45 with 1 layer: SLOPES 71, 55, 29, -1, -27, -45, -51, -45, .. */
    private Asked swinging() {
        return e.cup("cup(2, 138, 112)", "set(0, 16)", "set(1, 5)");
    }

    private void offTicks() {
        // through a HOLE of 0 nothing goes: 20 for ever
        e.cup("cup(2, 100, 50)", "wall(0, 0)", "set(6, 0)", "tick(9, 9)", "seed(3)").law(0, "500", 0)
            .is("off(10, 1, 9)", 0).row(20, 20, 0, 1).is("off(10, 400, 0)", 0).row(20, 20, 0, 1).is("off(1, 2, 5)", 0)
            .row(2, 2, 0, 1).is("off(500, 2, 5)", 0).row(100, 100, 0, 1).is("count(3)", 1).is("set(2, 0)", 0)
            .is("seed(1)", 3);
        e.cup("cup(2, 100, 100)", "set(1, 0)").is("off(500, 400, 9)", 0).is("count(7)", 4);
    }

    private void offFrom() {
        // from TICK 1, 1, 1, 2, 2, 3, 3, 4 on
        int[] with = {55, 55, 55, 29, 45, 51, 51, 51};
        Asked x = swinging();
        for (int n = 1; n <= with.length; n++) {
            x.is("off(45, " + n + ", 1)", 0).is("row(0)", with[n - 1]);
        }
        x.is("off(45, 400, 1)", 0).is("row(0)", 3);
    }

    private void offLayers() {
        Asked x = swinging().does("set(2, 7)").is("off(45, 5, 0)", 0).row(57, 57, 0, 1).is("off(45, 5, 1)", 0)
            .row(45, 57, 4, 19);
        x.is("off(45, 5, 9)", 0).is("row(1)", 57).is("set(2, 7)", 7).none("off(45, 5, 10)", "off(45, 5, -1)");
        // with 9 layers 59 hundredths are lost: of a SLOPE of 90 without any HOLE nothing is taken off
        swinging().does("set(3, 0)").is("off(45, 5, 9)", 0).row(57, 57, 0, 1);
    }

    private void offFraction() {
        e.cup("cup(4, 7, 3)").is("off(6, 16, 2)", 0).row(6, 5, -1, 5);
        e.cup("cup(2, 100, 50)", "set(1, 20)").is("off(2, 20, 3)", 0).row(4, 0, 0, 1);
        e.cup("cup(2, 100, 50)", "wall(0, 0)").is("off(3, 3, 3)", 0).row(6, 6, 0, 1);
    }

    private void offLowest() {
        swinging().is("off(45, 4, 1)", 0).row(29, 37, 8, 37).is("off(45, 6, 1)", 0).row(51, 63, 4, 21)
            .is("off(45, 5, 1)", 0).row(45, 57, 4, 19).is("off(45, 400, 1)", 0).row(3, 9, 2, 3).is("off(45, 1, 1)", 0)
            .row(55, 55, 0, 1);
    }

    private void offRefused() {
        e.cup("steps(0)").none("off(0, 1, 1)", "off(501, 1, 1)", "off(1, 0, 1)", "off(1, 401, 1)", "off(1, 1, -1)")
            .none("off(1, 1, 10)", "off(MAX, 1, 1)", "off(1, MAX, 1)", "off(1, 1, MAX)")
            .none("off(MIN, 1, 1)", "off(1, MIN, 1)", "off(1, 1, MIN)").row(0, 0, 0)
            .is("off(1, 1, 0)", 0).is("off(500, 400, 9)", 0).is("count(7)", 4);
    }

    private void fewWalls() {
        Asked x = e.cup("steps(0)").is("few(0, 0)", 0).row().walks(0, "s9").is("few(0, 99)", 0).row();
        x = e.cup("cup(4, 7, 3)").walks(0, "j62").is("few(0, 20)", 1).row(1).is("count(9)", 0);
        x = e.cup("cup(3, 6, 6)").walks(0, "g31,13,8*5").is("few(0, 2)", 2).row(0, 1).is("count(9)", 0);
        // two CELLS have but one GAP
        plain(100, 80, "j168").is("few(0, 99)", 1).row(0).is("count(9)", 0).walks(0, "j200").is("few(0, 99)", -2).row(0);
    }

    private void fewGaps() {
        // the GAP that would do has a wall of its own: it is none of those
        plain(100, 80, "j168").is("few(0, 50)", 1).row(0).does("wall(0, 99)").is("few(0, 50)", 0).row().walks(0, "j200")
            .is("few(0, 50)", -2).is("wall(0, 100)", 99).is("few(0, 50)", 1).row(0);
        e.cup("cup(4, 7, 3)", "wall(1, 99)").walks(0, "j62").is("few(0, 20)", 1).row(2).is("count(9)", 1);
        e.cup("cup(4, 7, 3)", "sheet(2, 3, 99, 0)", "steps(0)").walks(0, "j62").is("few(0, 20)", -2).row(0, 0, 0);
    }

    private void fewHoles() {
        e.cup("cup(3, 14, 8)").walks(0, "j-58").is("few(0, 0)", 1).row(0).is("few(0, 90)", 1).row(0).is("few(0, 99)", -2)
            .row(0).none("few(0, 100)", "few(0, -1)").row(0);
    }

    private void fewLeastRow() {
        // 3 and 6, 4 and 6, 5 and 6 would do
        e.cup("cup(8, 66, 21)").walks(0, "g55,8,5*6").is("few(0, 74)", 2).row(3, 6).does("wall(3, 99)").is("few(0, 74)", 2)
            .is("row(0)", 4);
        // each alone would do at the first and at the last GAP
        e.cup("cup(3, 100, 80)", "set(0, 1)", "set(1, 0)").walks(0, "j168").is("few(0, 0)", 1).row(1)
            .walks(0, "j-168").is("few(0, 0)", 1).row(0);
        Asked x = e.cup("cup(5, 7, 3)").walks(0, "j62");
        int count = x.answerOf("few(0, 9)");
        e.is("one WALL does", count, 1);
        int gap = x.answerOf("row(0)");
        for (int g = 0; g < gap; g++) {
            e.is("no GAP ahead of it does", x.does("wall(" + g + ", 9)").answerOf("would(0, 1)") > 0, true);
            x.does("wall(" + g + ", 100)");
        }
        x.does("wall(" + gap + ", 9)").is("would(0, 1)", 0);
    }

    private void fewRefused() {
        e.cup("cup(7, 6, 6)").walks(0, "j90").does("steps(0)").is("few(0, 99)", -2).row(1, 90, 0)
            .none("few(-1, 5)", "few(4, 5)", "few(0, -1)", "few(0, 100)", "few(MAX, 5)", "few(MIN, 5)")
            .none("few(0, MAX)", "few(0, MIN)").row(1, 90, 0).is("few(3, 0)", 0).row();
    }

    private void best() {
        // 2 for each hundredth: up to 3 nothing goes over, and the ends stay as they are
        plain(100, 50, "j200").is("best(0, 0)", 3).row(50).is("count(9)", 0);
        e.cup("cup(5, 75, 5)").walks(0, "g4,9,0*3").is("best(0, 0)", 99).row(9);
        e.cup("cup(3, 6, 1)").walks(0, "j39").is("best(0, 0)", 20).row(2);
        // only with a HOLE of 0 the last CELL stays as it is
        e.cup("cup(20, 999, 999)", "set(0, 16)", "set(1, 0)", "set(4, 100)", "set(6, 0)").law(0, "500", 0).walks(0, "s12")
            .is("best(0, 18)", 0).row(999);
        e.cup("cup(4, 715, 608)", "set(0, 9)", "set(1, 0)", "set(4, 100)", "set(6, 0)").law(0, "500", 0).walks(0, "s5")
            .is("best(0, 1)", 0).row(1216);
        wandering().is("best(0, 0)", 21).row(12);
    }

    /** DRAWS with R 1 let 2 be SPILT, with R 0 9, with R 2 10. */
    private Asked wandering() {
        return plain(14, 12, "w50;s4").is("would(0, 0)", 9).is("would(0, 1)", 2).is("would(0, 2)", 10).does("seed(2)");
    }

    private void bestOfEqualOnes() {
        plain(100, 50, "j7").is("best(0, 0)", 100).row(50);
        plain(100, 50, "j8").is("best(0, 0)", 99).row(50);
        plain(100, 50, "j16").is("best(0, 0)", 49).row(50);
        // the wall that is there is no matter, and stays
        plain(100, 50, "j7").does("wall(0, 7)").is("best(0, 0)", 100).row(50).is("wall(0, 7)", 7);
        plain(100, 50, "").is("best(0, 0)", 100).row(0);
    }

    private void bestRefused() {
        e.cup("steps(0)").none("best(-1, 0)", "best(4, 0)", "best(0, -1)", "best(0, 7)", "best(MAX, 0)")
            .none("best(MIN, 0)", "best(0, MAX)", "best(0, MIN)").row(0, 0, 0)
            .is("best(3, 6)", 100).row(0).does("cup(2, 9, 9)").none("best(0, 1)").is("best(0, 0)", 100);
    }

    private void lid() {
        // 3 are above RIM; of 3 less a LID's hundredths (cut) are SPILT 3, from 34 on 2, from 67 on 1, at 100 none
        e.cup("cup(4, 7, 3)", "set(4, 50)").walks(0, "j62").is("lid(0, 9999)", 0).is("lid(0, 3)", 0).is("lid(0, 2)", 34)
            .is("lid(0, 1)", 67).is("lid(0, 0)", 100).is("set(4, 0)", 50).is("count(7)", 0).is("would(0, 1)", 3);
        e.cup("cup(4, 7, 3)").is("lid(0, 0)", 0).walks(0, "s9").is("lid(0, 0)", 0);
        wandering().is("lid(0, 2)", 0).is("lid(0, 0)", 100);
        Asked x = e.cup("cup(6, 73, 37)").walks(0, "g6,21,29*4").is("lid(0, 74)", 99).does("set(4, 99)");
        int spilt = x.answerOf("would(0, 1)");
        x.is("lid(0, " + spilt + ")", 99).is("lid(0, " + (spilt - 1) + ")", 100);
    }

    private void lidRefused() {
        // a LID of 100 keeps all, so that there is always one
        e.cup("cup(20, 999, 999)", "set(1, 0)", "steps(0)").walks(0, "g200,40,200*25").is("lid(0, 0)", 100)
            .none("lid(-1, 0)", "lid(4, 0)", "lid(0, -1)", "lid(0, 10000)", "lid(MAX, 0)", "lid(MIN, 0)")
            .none("lid(0, MAX)", "lid(0, MIN)").row(0, 0, 0).is("lid(3, 9999)", 0);
    }
}
