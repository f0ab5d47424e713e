/** Boundary cases of promises 1 to 10: the cup. */
final class CupEdges {
    private final Edges e;

    private CupEdges(Edges e) {
        this.e = e;
    }

    static void run(Edges e) {
        CupEdges c = new CupEdges(e);
        e.test(1, "A cup as at first.", c::aNewCup);
        c.ofCup();
        c.ofSet();
        c.ofWallAndSheet();
        c.ofFreshAndTilt();
        c.ofTick();
        c.ofCellAndOf();
    }

    private void ofCup() {
        e.test(2, "CELLS 2 .. 20 (at first 8) in a ROW ALONG (0) and in one ACROSS (1), both alike", this::cells);
        e.test(2, "RIM 1 .. 999 (at first 100), FILL 0 .. RIM (at first 80).", this::rimAndFill);
        e.test(2, "CELLS, RIM, FILL become these, no WALLS; it is FRESH: true.", this::cupIsFresh);
        e.test(2, "Refused: others.", this::cupRefused);
    }

    private void ofSet() {
        e.test(3, "STIFF 1 .. 16 (at first 8)", () -> setting(0, 1, 16, 8));
        e.test(3, "DAMP 0 .. 50 (at first 2)", () -> setting(1, 0, 50, 2));
        e.test(3, "FOAM 0 .. 9 layers (at first 0)", () -> setting(2, 0, 9, 0));
        e.test(3, "BITE 0 .. 20 (at first 6)", () -> setting(3, 0, 20, 6));
        e.test(3, "LID 0 .. 100 (at first 0)", () -> setting(4, 0, 100, 0));
        e.test(3, "LATE 0 .. 20 (at first 0).", () -> setting(5, 0, 20, 0));
        e.test(3, "What 0: STIFF, 1: DAMP, 2: FOAM, 3: BITE, 4: LID, 5: LATE, 6: THE HAND (0 .. 3) becomes v: what it was.",
            () -> setting(6, 0, 3, 3));
        e.test(3, "Refused: others.", this::setRefused);
    }

    private void ofWallAndSheet() {
        e.test(4, "a HOLE 0 .. 100 (at first 100: no wall), the same in both ROWS.", this::holes);
        e.test(4, "WALLS: at each GAP between two CELLS", this::gaps);
        e.test(4, "The HOLE at a GAP becomes v: what it was.", this::wallWas);
        e.test(4, "Refused: others.", this::wallRefused);
        e.test(5, "bytes (kind 0), shorts (1), ints (2) of n entries f, f + step, ..", this::sheetEntries);
        e.test(5, "(of bytes, shorts the lowest bits, with their sign; put to 0 .. 100)", this::sheetBits);
        e.test(5, "GAPS behind it have 100: the sum of all that there are", this::sheetBehind);
        e.test(5, "or a missing one (3): GAPS behind it have 100", this::sheetMissing);
        e.test(5, "(of kind 3 n below 0 does not matter).", this::sheetMissingBelow);
        e.test(5, "-2: n below 0 (of kinds 0 .. 2; nothing changes); -3: missing (all 100).", this::sheetBelow);
        e.test(5, "NONE: another kind, n above the GAPS there are (these first).", this::sheetRefused);
    }

    private void ofFreshAndTilt() {
        e.test(6, "It is FRESH: the TICK it was.", this::freshTick);
        e.test(6, "FRESH: THE STATE as at first.", this::freshState);
        e.test(7, "by (CELLS less 1), cut, put to 0 .. RIM", this::tiltCut);
        e.test(7, "put to 0 .. RIM; its FLOWS 0: true.", this::tiltBounds);
        e.test(7, "its FLOWS 0: true.", this::tiltFlows);
        e.test(7, "Refused: others (tilt -500 .. 500).", this::tiltRefused);
    }

    private void ofTick() {
        e.test(8, "THE STATE: a TICK (at first 0), of each ROW HEIGHTS of its CELLS (at first FILL), FLOWS at its GAPS "
            + "(at first 0), what was SPILT (at first 0).", this::stateAtFirst);
        e.test(8, "FLOW grows by STIFF times (HEIGHT ahead of it less that behind it) by 16 (cut to 0), and by the PUSH",
            this::flowGrows);
        e.test(8, "A TICK with a PUSH of each ROW: at each GAP, in order", this::flowsAheadOfMoves);
        e.test(8, "then it loses as many hundredths of it (cut to 0) as DAMP and FOAM times BITE are (100 at most)",
            this::flowLoses);
        e.test(8, "then it is FLOW times HOLE by 100 (cut to 0)", this::flowThroughHoles);
        e.test(8, "put to -8000 .. 8000.", this::flowBounds);
        e.test(8, "Then at each GAP, in order: FLOW by 8 (cut to 0) goes over it from the CELL ahead to that behind "
            + "(below 0: back)", this::moves);
        e.test(8, "but no more than is in the CELL it leaves; if that is less, FLOW is 8 times what went.",
            this::movesNoMore);
        e.test(8, "Then at each GAP, in order", this::movesInOrder);
        e.test(8, "Then of the first and of the last CELL what is above RIM", this::spills);
        e.test(8, "less LID hundredths of that (cut), is SPILT (the rest stays).", this::spillsLess);
        e.test(8, "Then the TICK is one more.", this::tickIsOneMore);
        e.test(8, "A TICK with these PUSHES (-500 .. 500; THE HAND does nothing): what was SPILT in it.", this::tickPushes);
        e.test(8, "Refused: others.", this::tickRefused);
    }

    private void ofCellAndOf() {
        e.test(9, "Of a CELL of a ROW, what 0: HEIGHT, 1: FLOW at the GAP behind it (0 of the last one).", this::lastCell);
        e.test(9, "NoSuchElementException: others.", this::cellRefused);
        e.test(10, "SLOPE of a ROW: HEIGHT of its first CELL less that of its last one.", this::slope);
        e.test(10, "Of a ROW, what 0: SLOPE, 1: SPILT, 2: all in its CELLS, 3: the greatest HEIGHT.", this::ofWhats);
        e.test(10, "NoSuchElementException: others.", this::ofRefused);
    }

    private void aNewCup() {
        Asked x = e.cup().is("count(0)", 8).is("count(1)", 100).is("count(2)", 80);
        for (int what = 3; what <= 9; what++) {
            x.is("count(" + what + ")", 0);
        }
        x.heights(0, 80, 80, 80, 80, 80, 80, 80, 80).heights(1, 80, 80, 80, 80, 80, 80, 80, 80);
        x.flows(0, 0, 0, 0, 0, 0, 0, 0, 0).flows(1, 0, 0, 0, 0, 0, 0, 0, 0);
        x.is("of(0, 1)", 0).is("of(1, 1)", 0).row().refused("again(0)", "again(1)", "again(2)");
        x.is("seed(1)", 1).is("wipe()", 0);
        for (int walk = 0; walk < 4; walk++) {
            x.is("steps(" + walk + ")", 0).row(0, 0, 0).is("leads(" + walk + ", 0)", 0);
        }
        x.noSuch("gives(0, 0)", "gives(1, 0)", "gives(2, 0)").none("reads()");
    }

    private void cells() {
        e.cup().is("count(0)", 8).is("cup(2, 100, 80)", true).is("count(0)", 2).refused("cup(1, 100, 80)")
            .is("cup(20, 100, 80)", true).is("count(0)", 20).refused("cup(21, 100, 80)").is("count(0)", 20)
            .is("cell(0, 19, 0)", 80).is("cell(1, 19, 0)", 80).noSuch("cell(0, 20, 0)", "cell(2, 0, 0)");
    }

    private void rimAndFill() {
        e.cup().is("count(1)", 100).is("count(2)", 80).is("cup(8, 1, 0)", true).is("count(1)", 1).is("count(2)", 0)
            .is("cup(8, 1, 1)", true).is("count(2)", 1).refused("cup(8, 1, 2)", "cup(8, 0, 0)")
            .is("cup(8, 999, 999)", true).is("count(1)", 999).is("count(2)", 999)
            .refused("cup(8, 1000, 999)", "cup(8, 999, 1000)", "cup(8, 999, -1)").is("cup(8, 999, 0)", true);
    }

    private void cupIsFresh() {
        Asked x = e.cup("cup(20, 100, 100)", "wall(0, 0)", "wall(18, 99)", "seed(9)", "tick(500, 500)", "keep(0)");
        x.is("count(9)", 2).is("cup(2, 100, 100)", true).is("count(9)", 0).is("count(3)", 0);
        x.heights(0, 100, 100).flows(0, 0, 0).is("of(0, 1)", 0).is("of(1, 1)", 0).is("seed(9)", 9);
        x.is("cup(20, 100, 100)", true).is("count(9)", 0).is("wall(18, 100)", 100);
        x.does("tick(500, 500)").is("cup(20, 100, 100)", true).is("count(3)", 0).is("of(0, 1)", 0);
    }

    private void cupRefused() {
        Asked x = e.cup("tick(80, 0)", "wall(3, 7)", "keep(2)");
        x.refused("cup(1, 9, 9)", "cup(21, 9, 9)", "cup(2, 0, 0)", "cup(2, 1000, 9)", "cup(2, 9, -1)", "cup(2, 9, 10)");
        x.refused("cup(0, 9, 9)", "cup(-2, 9, 9)", "cup(MAX, 9, 9)", "cup(MIN, 9, 9)");
        x.refused("cup(2, MAX, 9)", "cup(2, MIN, MIN)", "cup(2, -1, -1)");
        x.refused("cup(2, 9, MAX)", "cup(2, 9, MIN)");
        x.is("count(0)", 8).is("count(1)", 100).is("count(2)", 80).is("count(3)", 1).is("count(9)", 1).is("again(2)", true);
    }

    private void setting(int what, int least, int most, int first) {
        String set = "set(" + what + ", ";
        e.cup().none(set + (least - 1) + ")", set + (most + 1) + ")").is(set + least + ")", first)
            .is(set + most + ")", least).none(set + (least - 1) + ")", set + (most + 1) + ")")
            .is(set + most + ")", most).is(set + first + ")", most);
    }

    private void setRefused() {
        Asked x = e.cup().none("set(-1, 1)", "set(7, 1)", "set(MAX, 1)", "set(MIN, 1)");
        for (int what = 0; what < 7; what++) {
            x.none("set(" + what + ", MAX)", "set(" + what + ", MIN)", "set(" + what + ", -1)");
        }
        int[] first = {8, 2, 0, 6, 0, 0, 3};
        for (int what = 0; what < 7; what++) {
            x.is("set(" + what + ", " + first[what] + ")", first[what]);
        }
    }

    private void holes() {
        Asked x = e.cup("cup(2, 999, 500)", "set(1, 0)").is("wall(0, 99)", 100).is("count(9)", 1).is("wall(0, 100)", 99);
        x.is("count(9)", 0).is("wall(0, 0)", 100).is("count(9)", 1).none("wall(0, -1)", "wall(0, 101)");
        x.does("tick(500, -500)").flows(0, 0).flows(1, 0).heights(0, 500, 500).heights(1, 500, 500);
        x.is("wall(0, 50)", 0).does("tick(400, -400)").flows(0, 200).flows(1, -200);
    }

    private void gaps() {
        e.cup("cup(2, 9, 9)").is("wall(0, 5)", 100).none("wall(1, 5)", "wall(-1, 5)").is("count(9)", 1);
        Asked x = e.cup("cup(20, 9, 9)");
        for (int gap = 0; gap < 19; gap++) {
            x.is("wall(" + gap + ", 5)", 100);
        }
        x.none("wall(19, 5)", "wall(20, 5)").is("count(9)", 19);
        x.is("cup(3, 9, 9)", true).is("wall(1, 5)", 100).none("wall(2, 5)");
    }

    private void wallWas() {
        e.cup().is("wall(6, 0)", 100).is("wall(6, 0)", 0).is("wall(6, 100)", 0).is("wall(6, 1)", 100).is("wall(6, 99)", 1)
            .is("wall(5, 100)", 100).is("count(9)", 1);
    }

    private void wallRefused() {
        e.cup("wall(0, 3)", "wall(6, 4)").none("wall(-1, 50)", "wall(7, 50)", "wall(0, -1)", "wall(0, 101)", "wall(6, 101)")
            .none("wall(MAX, 50)", "wall(MIN, 50)", "wall(0, MAX)")
            .none("wall(0, MIN)").is("wall(0, 3)", 3).is("wall(6, 4)", 4).is("count(9)", 2);
    }

    private void sheetEntries() {
        for (int kind = 0; kind <= 2; kind++) {
            Asked x = e.cup("cup(5, 100, 80)");
            sheetIs(x, "sheet(" + kind + ", 4, 10, 20)", 10, 30, 50, 70);
            sheetIs(x, "sheet(" + kind + ", 4, 70, -20)", 70, 50, 30, 10);
            sheetIs(x, "sheet(" + kind + ", 4, 7, 0)", 7, 7, 7, 7);
        }
        // f + step as ints: behind the greatest int comes the least
        sheetIs(e.cup("cup(3, 100, 80)"), "sheet(2, 2, MAX, 1)", 100, 0);
        sheetIs(e.cup("cup(3, 100, 80)"), "sheet(2, 2, MIN, -1)", 0, 100);
        sheetIs(e.cup("cup(4, 100, 80)"), "sheet(2, 3, 4, MIN)", 4, 0, 4);
    }

    private void sheetBits() {
        Asked x = e.cup("cup(5, 100, 80)");
        sheetIs(x, "sheet(0, 4, 98, 1)", 98, 99, 100, 100);
        sheetIs(x, "sheet(0, 4, 2, -1)", 2, 1, 0, 0);
        sheetIs(x, "sheet(0, 4, 126, 1)", 100, 100, 0, 0);
        sheetIs(x, "sheet(0, 4, 255, 1)", 0, 0, 1, 2);
        sheetIs(x, "sheet(0, 4, -127, -1)", 0, 0, 100, 100);
        sheetIs(x, "sheet(0, 1, 1074, 0)", 50, 100, 100, 100);
        sheetIs(x, "sheet(1, 4, 128, 127)", 100, 100, 100, 100);
        sheetIs(x, "sheet(1, 4, 32766, 1)", 100, 100, 0, 0);
        sheetIs(x, "sheet(1, 4, 65535, 1)", 0, 0, 1, 2);
        sheetIs(x, "sheet(1, 4, -32767, -1)", 0, 0, 100, 100);
        sheetIs(x, "sheet(1, 1, 65586, 0)", 50, 100, 100, 100);
        sheetIs(x, "sheet(2, 4, 32766, 1)", 100, 100, 100, 100);
        sheetIs(x, "sheet(2, 4, -1, 1)", 0, 0, 1, 2);
        sheetIs(x, "sheet(2, 4, 65586, 65536)", 100, 100, 100, 100);
    }

    private void sheetBehind() {
        Asked x = e.cup("cup(4, 100, 80)");
        sheetIs(x, "sheet(0, 3, 5, 1)", 5, 6, 7);
        sheetIs(x, "sheet(0, 2, 5, 1)", 5, 6, 100);
        sheetIs(x, "sheet(0, 3, 5, 1)", 5, 6, 7);
        sheetIs(x, "sheet(0, 0, 5, 1)", 100, 100, 100);
        sheetIs(e.cup("cup(2, 100, 80)"), "sheet(1, 1, 0, 9)", 0);
        e.cup("cup(20, 100, 80)").is("sheet(2, 19, 0, 1)", 171).is("count(9)", 19).is("wall(18, 9)", 18);
    }

    private void sheetIs(Asked x, String call, long... holes) {
        long sum = 0;
        for (long hole : holes) {
            sum += hole;
        }
        x.is(call, sum);
        for (int gap = 0; gap < holes.length; gap++) {
            x.is("wall(" + gap + ", " + holes[gap] + ")", holes[gap]);
        }
    }

    private void sheetMissing() {
        e.cup("cup(4, 100, 80)", "wall(0, 0)", "wall(2, 99)").is("sheet(3, 0, 5, 5)", -3).is("count(9)", 0)
            .does("wall(1, 1)").is("sheet(3, 3, 5, 5)", -3).is("count(9)", 0);
    }

    private void sheetMissingBelow() {
        e.cup("cup(4, 100, 80)", "wall(2, 9)").is("sheet(3, -1, 5, 5)", -3).is("count(9)", 0).does("wall(2, 9)")
            .is("sheet(3, MIN, 5, 5)", -3).is("count(9)", 0);
    }

    private void sheetBelow() {
        Asked x = e.cup("cup(4, 100, 80)", "wall(0, 7)", "wall(2, 9)");
        for (int kind = 0; kind <= 2; kind++) {
            x.is("sheet(" + kind + ", -1, 5, 5)", -2).is("sheet(" + kind + ", MIN, 5, 5)", -2);
        }
        x.is("wall(0, 7)", 7).is("wall(1, 100)", 100).is("wall(2, 9)", 9).is("sheet(3, 0, 5, 5)", -3).is("count(9)", 0);
    }

    private void sheetRefused() {
        Asked x = e.cup("cup(4, 100, 80)", "wall(0, 7)");
        x.none("sheet(-1, 1, 5, 5)", "sheet(4, 1, 5, 5)", "sheet(MAX, 1, 5, 5)", "sheet(MIN, 1, 5, 5)");
        x.none("sheet(4, -1, 5, 5)", "sheet(-1, -1, 5, 5)", "sheet(4, 4, 5, 5)");
        for (int kind = 0; kind <= 3; kind++) {
            x.none("sheet(" + kind + ", 4, 5, 5)", "sheet(" + kind + ", MAX, 5, 5)");
        }
        x.is("wall(0, 7)", 7).is("count(9)", 1);
        e.cup("cup(2, 100, 80)").none("sheet(0, 2, 5, 5)", "sheet(3, 2, 5, 5)").is("sheet(0, 1, 5, 5)", 5);
    }

    private void freshTick() {
        e.cup().is("fresh()", 0).is("fresh()", 0).does("tick(1, 1)").is("fresh()", 1).is("count(3)", 0)
            .does("tick(1, 1)", "tick(-500, 500)").is("fresh()", 2).is("fresh()", 0);
    }

    private void freshState() {
        Asked x = e.cup("cup(3, 50, 50)", "wall(0, 9)", "set(0, 5)", "seed(-3)", "tick(500, 500)", "tick(500, -500)");
        x.is("fresh()", 2).heights(0, 50, 50, 50).heights(1, 50, 50, 50).flows(0, 0, 0, 0).flows(1, 0, 0, 0);
        x.is("of(0, 1)", 0).is("of(1, 1)", 0).is("count(9)", 1).is("set(0, 5)", 5).is("seed(-3)", -3);
    }

    private void tiltCut() {
        // of 4 CELLS: times 3, 1, -1, -3, by 3, each cut to 0
        e.cup("cup(4, 100, 50)").is("tilt(0, 1)", true).heights(0, 51, 50, 50, 49).is("tilt(0, 5)", true)
            .heights(0, 55, 51, 49, 45).is("tilt(1, -5)", true).heights(1, 45, 49, 51, 55)
            .is("tilt(0, 2)", true).heights(0, 52, 50, 50, 48).is("tilt(0, 3)", true).heights(0, 53, 51, 49, 47);
        e.cup("cup(3, 999, 500)").is("tilt(0, 500)", true).heights(0, 999, 500, 0).is("tilt(0, -499)", true)
            .heights(0, 1, 500, 999).is("tilt(0, 0)", true).heights(0, 500, 500, 500);
        e.cup("cup(20, 999, 500)").is("tilt(0, 19)", true).is("cell(0, 0, 0)", 519).is("cell(0, 9, 0)", 501)
            .is("cell(0, 10, 0)", 499).is("cell(0, 19, 0)", 481);
    }

    private void tiltBounds() {
        e.cup("cup(2, 60, 50)").is("tilt(0, 10)", true).heights(0, 60, 40).is("tilt(0, 11)", true).heights(0, 60, 39)
            .is("tilt(0, -10)", true).heights(0, 40, 60).is("tilt(0, -11)", true).heights(0, 39, 60)
            .is("tilt(0, 50)", true).heights(0, 60, 0).is("tilt(0, 500)", true).heights(0, 60, 0);
        e.cup("cup(2, 100, 10)").is("tilt(1, 9)", true).heights(1, 19, 1).is("tilt(1, 10)", true).heights(1, 20, 0)
            .is("tilt(1, 11)", true).heights(1, 21, 0).is("tilt(1, -500)", true).heights(1, 0, 100);
        e.cup("cup(2, 1, 0)").is("tilt(0, 1)", true).heights(0, 1, 0).is("tilt(0, 2)", true).heights(0, 1, 0);
    }

    private void tiltFlows() {
        Asked x = e.cup("cup(3, 100, 100)", "set(1, 0)", "tick(80, -80)").is("of(0, 1)", 10);
        x.is("tilt(0, 0)", true).flows(0, 0, 0, 0).heights(0, 100, 100, 100).flows(1, -80, -80, 0);
        x.is("of(0, 1)", 10).is("count(3)", 1).is("tilt(1, 7)", true).flows(1, 0, 0, 0);
    }

    private void tiltRefused() {
        e.cup("cup(2, 999, 500)", "tick(80, 80)").refused("tilt(0, 501)", "tilt(0, -501)", "tilt(1, 501)", "tilt(-1, 1)")
            .refused("tilt(2, 1)", "tilt(MAX, 1)", "tilt(0, MAX)", "tilt(0, MIN)")
            .flows(0, 79, 0).flows(1, 79, 0).is("tilt(0, 500)", true).heights(0, 999, 0)
            .is("tilt(1, -500)", true).heights(1, 0, 999);
    }

    private void stateAtFirst() {
        e.cup("cup(2, 9, 0)").is("count(3)", 0).heights(0, 0, 0).heights(1, 0, 0).flows(0, 0, 0).is("of(1, 1)", 0)
            .is("tick(500, -500)", 0).heights(0, 0, 0).heights(1, 0, 0);
        e.cup("cup(2, 9, 9)").heights(0, 9, 9).heights(1, 9, 9).is("tick(0, 0)", 0).heights(0, 9, 9);
    }

    private void flowGrows() {
        // 57 less 42 is 15: 15 by 16 is 0; 58 less 42 is 16: 1
        Asked x = e.cup("cup(2, 57, 50)", "set(0, 1)", "set(1, 0)", "tilt(0, 8)", "tilt(1, -8)", "tick(0, 0)");
        x.heights(0, 57, 42).flows(0, 0).heights(1, 42, 57).flows(1, 0);
        x.does("cup(2, 58, 50)", "tilt(0, 8)", "tilt(1, -8)", "tick(0, 0)").flows(0, 1).flows(1, -1);
        x.does("fresh()", "tilt(0, 8)", "tilt(1, -8)", "tick(7, -7)").flows(0, 8).flows(1, -8);
        x.does("fresh()", "tilt(0, 8)", "tilt(1, -8)", "tick(-1, 1)").flows(0, 0).flows(1, 0);
        x.does("set(0, 16)", "fresh()", "tilt(0, 1)", "tilt(1, -1)", "tick(0, 0)").flows(0, 2).flows(1, -2);
        x.does("set(0, 5)", "fresh()", "tilt(0, 2)", "tilt(1, -2)", "tick(0, 0)").flows(0, 1).flows(1, -1);
        x.does("set(0, 5)", "fresh()", "tilt(0, 1)", "tilt(1, -1)", "tick(0, 0)").flows(0, 0).flows(1, 0);
    }

    private void flowsAheadOfMoves() {
        // the FLOW at the second GAP is from HEIGHTS as they were: 50 less 40, not 51 less 40
        e.cup("cup(3, 100, 50)", "set(0, 16)", "set(1, 0)", "tilt(0, 10)", "tick(0, 0)").flows(0, 10, 10, 0)
            .heights(0, 59, 50, 41);
    }

    private void flowLoses() {
        Asked x = e.cup("cup(2, 999, 500)");
        loses(x, 1, 0, 0, new int[][] {{99, 99}, {100, 99}, {-99, -99}, {-100, -99}, {199, 198}, {200, 198}});
        loses(x, 0, 9, 0, new int[][] {{500, 500}, {-500, -500}});
        loses(x, 0, 9, 11, new int[][] {{100, 1}, {-100, -1}, {99, 1}, {1, 1}, {500, 5}});
        loses(x, 1, 9, 11, new int[][] {{500, 0}, {-500, 0}, {1, 0}});
        loses(x, 2, 9, 11, new int[][] {{500, 0}, {-500, 0}, {100, 0}});
        loses(x, 50, 9, 20, new int[][] {{500, 0}, {-500, 0}});
        loses(x, 50, 0, 20, new int[][] {{500, 250}, {1, 1}, {-3, -2}});
    }

    private void loses(Asked x, int damp, int foam, int bite, int[][] pushes) {
        x.does("set(1, " + damp + ")", "set(2, " + foam + ")", "set(3, " + bite + ")");
        for (int[] p : pushes) {
            x.does("fresh()", "tick(" + p[0] + ", " + p[0] + ")").flows(0, p[1]).flows(1, p[1]);
        }
    }

    private void flowThroughHoles() {
        Asked x = e.cup("cup(2, 999, 500)", "set(1, 0)");
        through(x, 1, new int[][] {{99, 0}, {100, 1}, {-99, 0}, {-100, -1}, {199, 1}, {-199, -1}});
        through(x, 0, new int[][] {{500, 0}, {-500, 0}});
        through(x, 99, new int[][] {{100, 99}, {1, 0}, {-1, 0}});
        through(x, 100, new int[][] {{1, 1}, {-1, -1}, {500, 500}});
        // first the loss, then the HOLE: 200 less 2, and 51 hundredths of that
        x.does("set(1, 1)");
        through(x, 51, new int[][] {{200, 100}});
    }

    private void through(Asked x, int hole, int[][] pushes) {
        x.does("wall(0, " + hole + ")");
        for (int[] p : pushes) {
            x.does("fresh()", "tick(" + p[0] + ", " + p[0] + ")").flows(0, p[1]).flows(1, p[1]);
        }
    }

    /** Behind 16 such TICKS, ALONG at GAP 9 FLOW is 8000 and HEIGHTS are 999, so that in the next it comes to 8500. */
    private void flowBounds() {
        bounded(100, 9, 8000);
        bounded(95, 9, 8000);
        bounded(94, 9, 7990);
        // ACROSS at GAP 1 FLOW is -7788 and HEIGHTS are 2213, 1084: it comes to -7788 + 70 - 500
        bounded(100, 1, -8000);
        bounded(98, 1, -8000);
        bounded(97, 1, -7971);
    }

    private void bounded(int hole, int gap, int want) {
        Asked x = e.cup("cup(20, 999, 999)", "set(0, 1)", "set(1, 0)", "set(4, 100)");
        for (int i = 0; i < 16; i++) {
            x.does("tick(500, -500)");
        }
        int row = want > 0 ? 0 : 1;
        x.is("cell(0, 9, 1)", 8000).is("cell(1, 1, 1)", -7788).does("wall(" + gap + ", " + hole + ")", "tick(500, -500)");
        x.is("cell(" + row + ", " + gap + ", 1)", want);
    }

    private void moves() {
        Asked x = e.cup("cup(2, 100, 50)", "set(1, 0)");
        int[][] moved = {{7, 0}, {8, 1}, {15, 1}, {16, 2}, {-7, 0}, {-8, -1}, {-15, -1}, {-16, -2}, {0, 0}, {1, 0}, {-1, 0}};
        for (int[] m : moved) {
            x.does("fresh()", "tick(" + m[0] + ", " + -m[0] + ")").heights(0, 50 - m[1], 50 + m[1])
                .heights(1, 50 + m[1], 50 - m[1]).flows(0, m[0]).flows(1, -m[0]);
        }
    }

    private void movesNoMore() {
        Asked x = e.cup("cup(2, 100, 4)", "set(1, 0)");
        x.does("tick(39, -39)").heights(0, 0, 8).flows(0, 39).heights(1, 8, 0).flows(1, -39);
        x.does("fresh()", "tick(40, -40)").heights(0, 0, 8).flows(0, 32).heights(1, 8, 0).flows(1, -32);
        x.does("fresh()", "tick(500, -500)").heights(0, 0, 8).flows(0, 32).heights(1, 8, 0).flows(1, -32);
        x.does("cup(2, 100, 0)", "tick(8, -8)").heights(0, 0, 0).flows(0, 0).heights(1, 0, 0).flows(1, 0);
        x.does("fresh()", "tick(7, -7)").heights(0, 0, 0).flows(0, 7).heights(1, 0, 0).flows(1, -7);
    }

    private void movesInOrder() {
        Asked x = e.cup("cup(3, 100, 4)", "set(1, 0)").is("tick(80, -80)", 0);
        // ALONG the second GAP has what came over the first one; ACROSS the first GAP has not what comes over the second
        x.heights(0, 0, 0, 12).flows(0, 32, 64, 0).heights(1, 8, 4, 0).flows(1, -32, -32, 0);
    }

    private void spills() {
        Asked x = e.cup("cup(2, 100, 99)", "set(1, 0)");
        x.is("tick(8, -8)", 0).heights(0, 98, 100).heights(1, 100, 98).is("of(0, 1)", 0).is("of(1, 1)", 0);
        x.does("fresh()").is("tick(16, 0)", 1).heights(0, 97, 100).is("of(0, 1)", 1).is("of(1, 1)", 0);
        x.does("fresh()").is("tick(-16, 0)", 1).heights(0, 100, 97).is("of(0, 1)", 1);
        x.does("fresh()").is("tick(0, 16)", 1).heights(1, 97, 100).is("of(1, 1)", 1).is("of(0, 1)", 0);
        // a CELL between spills nothing
        x.does("cup(3, 10, 10)", "wall(1, 0)").is("tick(80, 0)", 0).heights(0, 0, 20, 10);
        x.is("tick(0, 0)", 0).heights(0, 0, 20, 10);
        bothEndsSpill();
    }

    private void bothEndsSpill() {
        Asked x = e.cup("cup(3, 100, 100)", "set(1, 0)", "set(4, 100)", "tick(-80, 0)").heights(0, 110, 100, 90);
        x.does("wall(0, 0)", "tick(235, 0)").heights(0, 110, 80, 110).does("set(4, 0)", "wall(1, 0)");
        x.is("tick(0, 0)", 20).heights(0, 100, 80, 100).is("of(0, 1)", 20).is("tick(0, 0)", 0);
    }

    private void spillsLess() {
        Asked x = e.cup("cup(2, 100, 99)", "set(1, 0)", "set(4, 99)");
        x.is("tick(16, 0)", 1).heights(0, 97, 100).does("fresh()").is("tick(24, 0)", 1).heights(0, 96, 101);
        x.does("cup(2, 100, 100)", "set(4, 1)").is("tick(500, 0)", 62).heights(0, 38, 100);
        x.does("fresh()", "set(4, 2)").is("tick(500, 0)", 61).heights(0, 38, 101);
        x.does("fresh()", "set(4, 100)").is("tick(500, 0)", 0).heights(0, 38, 162).is("of(0, 1)", 0);
        // what stays above RIM is above RIM again: 8 times -93 by 16 is -46, so that nothing moves then
        x.does("fresh()", "set(4, 50)").is("tick(500, 0)", 31).heights(0, 38, 131);
        x.is("tick(-454, 0)", 16).flows(0, 0).heights(0, 38, 115).is("of(0, 1)", 47);
    }

    private void tickIsOneMore() {
        e.cup().is("count(3)", 0).does("tick(0, 0)").is("count(3)", 1).does("tick(500, -500)").is("count(3)", 2)
            .none("tick(501, 0)").is("count(3)", 2);
    }

    private void tickPushes() {
        Asked x = e.cup("cup(2, 999, 500)", "set(1, 0)", "set(6, 0)", "set(5, 2)").law(0, "p*2+9", 0);
        x.is("tick(500, -500)", 0).flows(0, 500).flows(1, -500).does("fresh()").is("tick(-500, 500)", 0);
        x.flows(0, -500).flows(1, 500).does("fresh()").is("tick(0, 0)", 0).flows(0, 0);
        x.does("cup(2, 100, 99)").is("tick(16, -16)", 2).is("of(0, 1)", 1).is("of(1, 1)", 1).is("tick(-16, 16)", 0);
    }

    private void tickRefused() {
        e.cup("tick(80, 8)").none("tick(501, 0)", "tick(-501, 0)", "tick(0, 501)", "tick(0, -501)", "tick(501, 501)")
            .none("tick(MAX, 0)", "tick(MIN, 0)", "tick(0, MAX)")
            .none("tick(0, MIN)").is("count(3)", 1).flows(0, 79).flows(1, 8);
    }

    private void lastCell() {
        e.cup("cup(2, 100, 50)", "set(1, 0)", "tick(80, -80)").is("cell(0, 0, 1)", 80).is("cell(0, 1, 1)", 0)
            .is("cell(1, 0, 1)", -80).is("cell(1, 1, 1)", 0).is("cell(0, 1, 0)", 60).is("cell(1, 1, 0)", 40);
        Asked x = e.cup("cup(20, 100, 50)", "set(1, 0)", "tick(80, -80)");
        x.is("cell(0, 18, 1)", 80).is("cell(0, 19, 1)", 0).is("cell(1, 19, 1)", 0).is("cell(0, 19, 0)", 60);
        // the last CELL of a smaller cup is no CELL with a GAP behind it, though it was one
        x.does("cup(5, 100, 50)", "tick(80, -80)").is("cell(0, 3, 1)", 80).is("cell(0, 4, 1)", 0);
    }

    private void cellRefused() {
        e.cup("cup(3, 100, 50)").noSuch("cell(-1, 0, 0)", "cell(2, 0, 0)", "cell(0, -1, 0)", "cell(0, 3, 0)",
            "cell(0, 3, 1)")
            .noSuch("cell(0, 0, -1)", "cell(0, 0, 2)", "cell(MAX, 0, 0)", "cell(MIN, 0, 0)")
            .noSuch("cell(0, MAX, 0)", "cell(0, MIN, 1)", "cell(0, 0, MAX)")
            .noSuch("cell(1, 19, 0)", "cell(1, 20, 0)", "cell(0, 2, MIN)").is("cell(1, 2, 0)", 50);
    }

    private void slope() {
        e.cup("cup(2, 100, 50)").is("of(0, 0)", 0).does("tilt(0, 7)", "tilt(1, -7)").is("of(0, 0)", 14).is("of(1, 0)", -14)
            .does("cup(3, 100, 100)", "tilt(0, 500)", "tilt(1, -500)").is("of(0, 0)", 100).is("of(1, 0)", -100)
            .does("cup(20, 999, 999)", "tilt(0, 500)", "tilt(1, -500)").is("of(0, 0)", 500).is("of(1, 0)", -500);
    }

    private void ofWhats() {
        e.cup("cup(2, 9, 0)").is("of(0, 0)", 0).is("of(0, 1)", 0).is("of(0, 2)", 0).is("of(0, 3)", 0);
        e.cup("cup(20, 999, 999)").is("of(1, 2)", 19980).is("of(1, 3)", 999);
        // the greatest HEIGHT of a CELL between: 8 goes from the first to the second of three
        Asked x = e.cup("cup(3, 100, 60)", "set(1, 0)", "wall(1, 0)", "tick(64, -64)");
        x.is("of(0, 3)", 68).is("of(0, 2)", 180).is("of(0, 0)", -8).is("of(1, 3)", 68).is("of(1, 0)", 8);
        x.does("cup(2, 100, 100)", "tick(80, 0)").is("of(0, 1)", 10).is("of(0, 2)", 190).is("of(0, 3)", 100)
            .is("of(1, 1)", 0);
    }

    private void ofRefused() {
        e.cup().noSuch("of(-1, 0)", "of(2, 0)", "of(0, -1)", "of(0, 4)", "of(1, 4)", "of(MAX, 0)")
            .noSuch("of(MIN, 0)", "of(0, MAX)", "of(0, MIN)").is("of(1, 3)", 80);
    }
}
