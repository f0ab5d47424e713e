/** Boundary cases of promises 18 to 20: a cup's own swing. */
final class SwingEdges {
    private final Edges e;

    private SwingEdges(Edges e) {
        this.e = e;
    }

    static void run(Edges e) {
        SwingEdges s = new SwingEdges(e);
        e.test(18, "FRESH, but ALONG tilted so (1 .. 500), let go (without PUSHES, THE HAND does nothing)", s::letGo);
        e.test(18,
            "the first number of TICKS, 2 or more, behind which SLOPE ALONG is greater than a TICK earlier, and not less "
            + "than a TICK later: it; the ROW: SLOPE at first, then.", s::firstSwing);
        e.test(18, "-2: none below 400; NONE: others.", s::noneBelow400);
        e.test(18, "NONE: others.", s::swingRefused);
        e.test(19, "Likewise: the first TICK from which on (to 400)", s::diesTo400);
        e.test(19, "the size of SLOPE ALONG is never above part hundredths (1 .. 100) of that at first, cut: it.",
            s::diesParts);
        e.test(19, "-2: none; NONE: others.", s::diesRefused);
        e.test(20, "Of numbers of TICKS 2 .. 40 of a STEP the one", s::worstOf2To40);
        e.test(20, "with which 20 such STEPS of a PUSH (1 .. 200), without SWAY, by THE HAND", s::twentySteps);
        e.test(20, "have the greatest size of SLOPE ALONG at any TICK (LID 100, so that nothing is SPILT)", s::worstLid);
        e.test(20, "of equal ones the least: it; the ROW: that SLOPE.", s::worstOfEqualOnes);
        e.test(20, "NONE: others.", s::worstRefused);
    }

    /** Of 2 CELLS, STIFF 16, 11 hundredths lost; tilted by 45: SLOPES 71, 55, 29, -1, -27, -45, -51, -45, -31, -11, 9,
        25, 33, 33, 27. */
    private Asked swinging() {
        return e.cup("cup(2, 138, 112)", "set(0, 16)", "set(1, 5)", "set(2, 1)", "steps(0)");
    }

    private void letGo() {
        Asked x = swinging().is("swing(45)", 12).row(71, 33);
        // a cup that was stirred, and a hand that would push, change nothing
        x.does("tick(300, -300)", "tick(-90, 4)", "set(6, 0)", "seed(44)").law(0, "500", 0).is("swing(45)", 12).row(71, 33);
        x.is("count(3)", 2).is("seed(44)", 44);
        e.cup("cup(2, 999, 500)", "set(0, 16)", "set(1, 0)").is("swing(1)", 14).row(2, 2).is("swing(500)", 12).row(999, 999)
            .none("swing(0)", "swing(501)").row(999, 999);
    }

    private void firstSwing() {
        swinging().is("swing(45)", 12).row(71, 33);
        Asked x = swinging().does("fresh()", "tilt(0, 45)");
        int[] slopes = {71, 55, 29, -1, -27, -45, -51, -45, -31, -11, 9, 25, 33, 33, 27};
        for (int slope : slopes) {
            x.is("of(0, 0)", slope).does("tick(0, 0)");
        }
        // -8 behind 59 TICKS, -8 behind 60, and then it goes on up: not less than a TICK later is enough
        e.cup("cup(7, 18, 6)", "set(0, 6)", "set(1, 0)").is("swing(181)", 59).row(18, -8);
        // -17, -19, -18, -18 behind 11 .. 14: greater than a TICK earlier, not than two
        e.cup("cup(4, 19, 4)", "set(0, 14)", "set(1, 0)").is("swing(21)", 13).row(19, -18);
        // as soon as may be
        e.cup("cup(13, 694, 160)", "set(0, 16)", "set(1, 11)", "sheet(2, 12, 100, 0)", "wall(1, 28)", "wall(3, 57)",
            "wall(4, 75)", "wall(5, 12)", "wall(6, 8)", "wall(8, 27)", "wall(10, 69)", "wall(11, 29)").is("swing(74)", 8);
    }

    private void noneBelow400() {
        e.cup("cup(19, 140, 131)", "set(0, 1)", "set(1, 3)", "set(2, 1)", "set(3, 1)").is("swing(159)", 399);
        // the 400th would be one
        Asked x = e.cup("cup(18, 18, 10)", "set(0, 2)", "set(1, 0)", "steps(0)").is("swing(77)", -2).row(0, 0, 0);
        x.does("tilt(0, 77)");
        int[] last = new int[4];
        for (int tick = 1; tick <= 401; tick++) {
            x.does("tick(0, 0)");
            if (tick >= 399) {
                last[tick - 398] = x.answerOf("of(0, 0)");
            }
        }
        e.is("SLOPE behind 400 is above that behind 399, and not below that behind 401",
            last[2] > last[1] && last[2] >= last[3], true);
        // walls: nothing moves
        e.cup("cup(2, 100, 50)", "wall(0, 0)", "steps(0)").is("swing(9)", -2).row(0, 0, 0);
    }

    private void swingRefused() {
        e.cup("steps(0)").none("swing(0)", "swing(501)", "swing(-1)", "swing(MAX)", "swing(MIN)")
            .row(0, 0, 0);
    }

    private void diesTo400() {
        // the last TICK that is looked at is the first of its kind
        e.cup("cup(7, 32, 3)", "set(0, 5)", "set(1, 0)").is("dies(216, 20)", 400);
        // the 400th alone is above
        slopesAbove(e.cup("cup(5, 84, 10)", "set(1, 0)").is("dies(10, 50)", -2), 10, 50, 400);
        // the 401st is not looked at
        slopesAbove(e.cup("cup(4, 116, 11)", "set(0, 16)", "set(1, 1)", "set(2, 1)").is("dies(47, 2)", 387), 47, 2, 401);
        // nothing moves: from TICK 0 on, or never
        e.cup("cup(2, 100, 50)", "wall(0, 0)", "steps(0)").is("dies(5, 100)", 0).is("dies(5, 99)", -2).row(0, 0, 0);
    }

    /** Of SLOPES behind 390 .. 401 TICKS that one alone is above part hundredths, or it and none ahead of it. */
    private void slopesAbove(Asked x, int tilt, int part, int tick) {
        x.does("tilt(0, " + tilt + ")");
        int most = x.answerOf("of(0, 0)") * part / 100;
        for (int i = 1; i <= tick; i++) {
            x.does("tick(0, 0)");
            if (i >= 390) {
                e.is("SLOPE behind " + i, Math.abs(x.answerOf("of(0, 0)")) > most, i == tick);
            }
        }
    }

    private void diesParts() {
        // SLOPES 71, 55, 29, -1, -27, -45, -51, -45, ..: 77 hundredths of 71 are 54, cut, 78 are 55, 72 are 51, 71 are 50
        swinging().is("dies(45, 78)", 1).is("dies(45, 77)", 2).is("dies(45, 72)", 2).is("dies(45, 71)", 7)
            .is("dies(45, 100)", 0).is("dies(45, 99)", 1).row(0, 0, 0);
        e.cup("cup(2, 1, 1)", "set(1, 0)", "wall(0, 0)").is("dies(500, 100)", 0).is("dies(1, 99)", -2).is("dies(1, 1)", -2);
        // of 1 at first all hundredths but 100 are 0
        e.cup("cup(2, 9, 9)", "set(0, 16)", "set(1, 50)").is("dies(1, 1)", -2);
    }

    private void diesRefused() {
        e.cup("steps(0)").none("dies(0, 5)", "dies(501, 5)", "dies(5, 0)", "dies(5, 101)", "dies(-5, 5)", "dies(5, -5)")
            .none("dies(MAX, 5)", "dies(MIN, 5)", "dies(5, MAX)").none("dies(5, MIN)", "dies(0, 0)").row(0, 0, 0);
        e.cup("cup(2, 100, 50)", "wall(0, 0)").is("dies(500, 100)", 0).is("dies(1, 1)", -2).none("dies(0, 1)");
    }

    private void worstOf2To40() {
        e.cup("cup(2, 1, 1)").is("worst(91)", 2).row(2);
        e.cup("cup(6, 98, 46)").is("worst(2)", 40).row(66);
        e.cup("cup(5, 77, 7)").is("worst(1)", 39).row(29);
    }

    /** In each of these 19 STEPS or 21 would tell another SLOPE, or another number of TICKS. */
    private void twentySteps() {
        e.cup("cup(12, 384, 296)", "set(0, 13)", "set(1, 3)", "set(3, 4)").is("worst(25)", 26).row(336);
        e.cup("cup(16, 29, 6)", "set(0, 8)", "set(1, 5)").is("worst(2)", 3).row(23);
        e.cup("cup(6, 150, 127)", "wall(2, 7)", "set(0, 4)", "set(1, 0)").is("worst(31)", 31).row(397);
        e.cup("cup(19, 297, 203)", "wall(16, 16)", "set(0, 2)", "set(1, 1)").is("worst(51)", 3).row(972);
        // by THE HAND: one that gives nothing
        e.cup("cup(3, 150, 80)", "set(6, 1)").law(1, "0", 0).is("worst(200)", 2).row(0).law(1, "", 0).is("worst(200)", 3)
            .row(240);
    }

    private void worstLid() {
        // with LID 0 SLOPE would not be above RIM; it is, and LID stays as it was
        Asked x = e.cup("cup(2, 10, 10)", "set(1, 0)", "set(4, 7)").is("worst(200)", 2).row(20);
        x.is("set(4, 100)", 7).is("worst(200)", 2).row(20).is("set(4, 0)", 100).is("worst(200)", 2).row(20);
    }

    private void worstOfEqualOnes() {
        // a greater SLOPE that was told ahead is of no matter
        e.cup().walks(0, "g200,16,0*20").is("worst(200)", 16).row(640).does("would(0, 1)").is("worst(1)", 25).row(50);
        Asked x = e.cup("sheet(2, 7, 0, 0)");
        for (String push : new String[] {"1", "9", "200"}) {
            x.is("worst(" + push + ")", 2).row(0);
        }
        // an empty cup
        e.cup("cup(4, 50, 0)").is("worst(200)", 2).row(0);
    }

    private void worstRefused() {
        e.cup("steps(0)").none("worst(0)", "worst(201)", "worst(-1)", "worst(MAX)", "worst(MIN)")
            .row(0, 0, 0);
        e.cup("cup(2, 1, 0)").is("worst(1)", 2).is("worst(200)", 2);
    }
}
