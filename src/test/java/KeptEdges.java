/** Boundary cases of promises 46 to 50: what is kept, counted and told. */
final class KeptEdges {
    private final Edges e;

    private KeptEdges(Edges e) {
        this.e = e;
    }

    static void run(Edges e) {
        KeptEdges k = new KeptEdges(e);
        e.test(46, "R becomes v: what it was.", k::seed);
        e.test(47, "THE STATE (and SLOPES seen), R are kept under a number 0 .. 2: true.", k::keep);
        e.test(47, "Refused: others.", k::keepRefused);
        e.test(48, "They are as they were kept under a number.", k::again);
        e.test(48, "Refused: nothing kept, cup() was taken since.", k::againRefused);
        e.test(49,
            "What 0: CELLS, 1: RIM, 2: FILL, 3: the TICK, 4: LAWS told (bits), 5: spots, 6: films, 7: numbers of the ROW, "
            + "8: signs of THE TEXT, 9: WALLS (HOLES below 100).", k::counts);
        e.test(49, "NONE for another what.", k::countRefused);
        e.test(49, "An object is used for at most 512 calls after it has been made; what later calls answer is free.",
            k::calls512);
        e.test(50, "ROW OF NUMBERS (called ROW in what calls say they tell): numbers told last by a call that says so.",
            k::toldLast);
        e.test(50, "Number i of the ROW.", k::numbersOfTheRow);
        e.test(50, "NoSuchElementException: none such.", k::rowRefused);
    }

    private void seed() {
        e.cup().is("seed(0)", 1).is("seed(MAX)", 0).is("seed(MIN)", Integer.MAX_VALUE)
            .is("seed(-1)", Integer.MIN_VALUE).is("seed(7)", -1).is("fresh()", 0).is("cup(2, 9, 9)", true).is("seed(7)", 7)
            .is("would(0, 9)", 0).is("seed(7)", 7);
    }

    private void keep() {
        Asked x = e.cup("cup(2, 100, 50)").law(0, "s", 0).is("keep(0)", true)
            .does("tilt(0, 9)", "tick(0, 0)", "tick(16, -90)");
        x.is("keep(2)", true).does("seed(5)", "tick(500, 0)", "tick(500, 0)").is("keep(1)", true).none("set(5, 21)");
        // SLOPES seen are kept too: 18 as TICK 0 began
        x.is("again(2)", true).is("count(3)", 2).does("set(5, 2)").is("gives(0, 0)", 18).is("seed(1)", 1);
        x.is("again(0)", true).is("count(3)", 0).is("gives(0, 0)", 0).heights(0, 50, 50).is("seed(1)", 1);
        x.is("again(1)", true).is("count(3)", 4).is("seed(1)", 5).is("again(2)", true).is("gives(0, 0)", 18)
            .is("seed(1)", 1);
    }

    private void keepRefused() {
        e.cup("tick(80, 0)").refused("keep(-1)", "keep(3)", "keep(MAX)", "keep(MIN)", "keep(32)")
            .refused("again(0)", "again(1)", "again(2)", "again(-1)", "again(3)", "again(32)").is("count(3)", 1)
            .is("keep(2)", true).is("keep(2)", true);
    }

    private void again() {
        Asked x = e.cup("cup(3, 50, 50)", "set(1, 0)", "tick(80, -80)", "tick(9, 9)", "keep(1)");
        String was = state(x);
        x.does("tick(300, 300)", "tilt(1, 40)", "fresh()", "set(0, 3)", "wall(1, 5)", "spot(5)", "seed(9)")
            .is("again(1)", true);
        e.is("THE STATE", state(x), was);
        // what is no part of it stays: settings, WALLS, spots
        x.is("set(0, 8)", 3).is("wall(1, 100)", 5).is("count(5)", 1).is("seed(1)", 1).does("tick(1, 1)")
            .is("again(1)", true);
        e.is("THE STATE, a second time", state(x), was);
        x.does("fresh()").is("keep(1)", true).is("again(1)", true).is("count(3)", 0).heights(0, 50, 50, 50);
        // 21 TICKS go by behind it, so that SLOPES seen are all others: they come back
        Asked y = e.cup("cup(2, 100, 50)", "set(5, 20)", "tilt(0, 9)").law(0, "s", 0);
        for (int i = 0; i < 20; i++) {
            y.does("tick(1, 0)");
        }
        y.is("gives(0, 0)", 18).is("keep(0)", true).does("tilt(0, -30)");
        for (int i = 0; i < 21; i++) {
            y.does("tick(-9, 0)");
        }
        y.is("gives(0, 0)", -52).is("again(0)", true).is("gives(0, 0)", 18);
    }

    private String state(Asked x) {
        return x.all("count(3)", "cell(0, 0, 0)", "cell(0, 1, 0)", "cell(0, 2, 0)", "cell(1, 0, 0)", "cell(1, 1, 0)",
            "cell(1, 2, 0)", "cell(0, 0, 1)", "cell(0, 1, 1)", "cell(1, 0, 1)", "cell(1, 1, 1)", "of(0, 1)", "of(1, 1)");
    }

    private void againRefused() {
        e.cup("tick(1, 1)").refused("again(0)", "again(1)", "again(2)", "again(-1)", "again(3)", "again(MAX)")
            .refused("again(MIN)").is("keep(1)", true).refused("again(0)", "again(2)").is("again(1)", true)
            .refused("cup(1, 9, 9)").is("again(1)", true).is("count(3)", 1).is("cup(8, 100, 80)", true)
            .refused("again(0)", "again(1)", "again(2)").is("count(3)", 0).is("keep(2)", true).refused("again(1)")
            .is("again(2)", true).is("fresh()", 0).is("again(2)", true);
    }

    private void counts() {
        Asked x = e.cup("cup(20, 999, 0)", "wall(0, 99)", "wall(18, 0)", "wall(7, 100)", "tick(1, 1)").text("abc");
        x.is("count(0)", 20).is("count(1)", 999).is("count(2)", 0).is("count(3)", 1).is("count(4)", 0).is("count(5)", 0);
        x.is("count(6)", 0).is("count(7)", 0).is("count(8)", 3).is("count(9)", 2).law(0, "0", 0).is("count(4)", 1);
        x.law(2, "p", 0).is("count(4)", 5).law(1, "p", 0).is("count(4)", 7).law(0, "", 0).is("count(4)", 6).does("steps(0)");
        x.is("count(7)", 3).does("off(1, 1, 1)").is("count(7)", 4).does("few(0, 1)").is("count(7)", 0).does("spot(0)");
        x.is("count(5)", 1).does("film(0, 0, 0, 0)").is("count(6)", 1).is("count(8)", 0);
        x.is("cup(2, 1, 1)", true).is("count(0)", 2).is("count(9)", 0).is("count(5)", 1).is("count(6)", 1).is("count(4)", 6);
    }

    private void countRefused() {
        e.cup().none("count(-1)", "count(10)", "count(MAX)", "count(MIN)").is("count(9)", 0)
            .is("count(0)", 8);
    }

    private void calls512() {
        Asked x = e.cup();
        for (int call = 1; call < 511; call++) {
            x.does("tick(" + call % 99 + ", 9)");
        }
        x.is("fresh()", 510).is("count(3)", 0);
    }

    private void toldLast() {
        Asked x = e.cup().row().walks(0, "g9,2,5*1").does("steps(0)").row(2, 18, 10);
        // these tell none
        x.does("cup(8, 100, 80)", "set(0, 8)", "wall(0, 100)", "sheet(3, 0, 0, 0)", "fresh()", "tilt(0, 0)", "tick(0, 0)");
        x.does("cell(0, 0, 0)", "of(0, 0)", "sign(0)", "end(0)", "go(0, 0, 1)", "dies(9, 9)", "full(0)", "leads(0, 0)");
        x.does("layers(0)", "lid(0, 0)", "form(1)", "stir(0)", "spot(0)", "far(0, 3)", "wipe()", "film(0, 0, 0, 0)",
            "seed(1)");
        x.does("keep(0)", "again(0)", "count(0)", "row(0)", "walk(1)", "law(1)", "row(9)").row(2, 18, 10);
        // a shorter one leaves nothing of a longer one, and an empty one is one
        x.does("off(9, 9, 9)").is("count(7)", 4).does("turn(0, 1000)").row(0).noSuch("row(1)", "row(2)", "row(3)");
        x.does("two(0)").row(0, 0).is("few(0, 9)", 0).row().noSuch("row(0)");
    }

    private void numbersOfTheRow() {
        Asked x = e.cup().noSuch("row(0)").walks(3, "g200,40,200*25").does("steps(3)").is("row(0)", 1000)
            .is("row(1)", 200000);
        x.is("row(2)", 200000).noSuch("row(3)").is("off(9, 9, 0)", 0).is("row(2)", 0).is("row(3)", 1).noSuch("row(4)");
    }

    private void rowRefused() {
        e.cup().noSuch("row(0)", "row(-1)", "row(1)").does("steps(0)").is("row(2)", 0).noSuch("row(3)", "row(-1)")
            .noSuch("row(MAX)", "row(MIN)", "row(4)").is("count(7)", 3);
    }
}
