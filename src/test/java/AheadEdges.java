/** Boundary cases of the sentences ahead of the promises, each for every promise that leans on it. */
final class AheadEdges {

    /** Which promise, and calls that it refuses. */
    private static final String[][] REFUSED = {
        {"2", "cup(1, 50, 40)", "cup(21, 50, 40)", "cup(3, 0, 0)", "cup(3, 1000, 40)", "cup(3, 50, -1)", "cup(3, 50, 51)"},
        {"3", "set(0, 0)", "set(0, 17)", "set(1, 51)", "set(2, 10)", "set(3, 21)", "set(4, 101)", "set(5, 21)", "set(6, 4)",
            "set(-1, 0)", "set(7, 0)"},
        {"4", "wall(-1, 5)", "wall(2, 5)", "wall(0, -1)", "wall(0, 101)"},
        {"5", "sheet(-1, 1, 5, 5)", "sheet(4, 1, 5, 5)", "sheet(0, 3, 5, 5)", "sheet(3, 3, 5, 5)"},
        {"7", "tilt(-1, 5)", "tilt(2, 5)", "tilt(0, 501)", "tilt(1, -501)"},
        {"8", "tick(501, 0)", "tick(-501, 0)", "tick(0, 501)", "tick(0, -501)"},
        {"9", "cell(2, 0, 0)", "cell(0, 3, 0)", "cell(0, 0, 2)"},
        {"10", "of(2, 0)", "of(0, 4)", "of(-1, -1)"},
        {"12", "end(3)", "end(-1)", "end(MAX)"},
        {"15", "gives(1, 0)", "gives(0, 501)", "gives(3, 0)"},
        {"16", "steps(-1)", "steps(4)"},
        {"17", "go(4, 0, 1)", "go(-1, 0, 1)", "go(0, -1, 1)", "go(0, 1001, 1)", "go(0, 0, -1)", "go(0, 0, 1001)"},
        {"18", "swing(0)", "swing(501)"},
        {"19", "dies(0, 1)", "dies(501, 1)", "dies(1, 0)", "dies(1, 101)"},
        {"20", "worst(0)", "worst(201)"},
        {"21", "would(-1, 1)", "would(4, 1)"},
        {"22", "odds(-1, 1)", "odds(4, 1)", "odds(0, 0)", "odds(0, 21)"},
        {"23", "full(-1)", "full(4)"},
        {"24", "leads(-1, 1)", "leads(4, 1)", "leads(0, -1)", "leads(0, 100)"},
        {"25", "plan(0)", "plan(401)"},
        {"26", "helps(-1, 0)", "helps(4, 0)", "helps(0, 1)", "helps(0, 3)"},
        {"27", "layers(-1)", "layers(4)"},
        {"28", "off(0, 1, 1)", "off(501, 1, 1)", "off(1, 0, 1)", "off(1, 401, 1)", "off(1, 1, -1)", "off(1, 1, 10)"},
        {"29", "few(-1, 5)", "few(4, 5)", "few(0, -1)", "few(0, 100)"},
        {"30", "best(-1, 0)", "best(4, 0)", "best(0, -1)", "best(0, 2)"},
        {"31", "lid(-1, 0)", "lid(4, 0)", "lid(0, -1)", "lid(0, 10000)"},
        {"32", "form(0)", "form(16)"},
        {"33", "turn(-1, 0)", "turn(4, 0)", "turn(0, -1)", "turn(0, 1001)"},
        {"34", "door(-1)", "door(4)"},
        {"35", "two(-1)", "two(4)"},
        {"36", "stop(0)", "stop(5001)"},
        {"37", "pause(-1, 0)", "pause(4, 0)", "pause(0, -1)", "pause(0, 1001)"},
        {"38", "stir(-1)", "stir(2)"},
        {"39", "spot(-1)", "spot(1001)"},
        {"41", "far(-1, 3)", "far(4, 3)", "far(0, 1)", "far(0, 4)"},
        {"43", "film(501, 0, 0, 0)", "film(0, 1000, 0, 0)", "film(0, 0, 1001, 0)", "film(0, 0, 0, 501)"},
        {"44", "fits(1, 0)", "fits(3, 0)", "fits(0, -1)", "fits(0, 100)"},
        {"47", "keep(-1)", "keep(3)"},
        {"48", "again(0)", "again(2)", "again(-1)", "again(3)"},
        {"49", "count(-1)", "count(10)"},
        {"50", "row(-1)", "row(3)"}};

    /** Which promise, and calls by which it says how it would be. */
    private static final String[][] WOULD_BE = {
        {"18", "swing(9)", "swing(500)"}, {"19", "dies(9, 50)", "dies(500, 1)"}, {"20", "worst(1)", "worst(200)"},
        {"21", "would(0, 1)", "would(0, -77)", "would(1, 5)", "would(3, 5)"}, {"22", "odds(0, 1)", "odds(0, 20)"},
        {"23", "full(0)", "full(1)"}, {"25", "plan(1)", "plan(14)"}, {"26", "helps(0, 0)", "helps(1, 0)"},
        {"27", "layers(0)", "layers(1)"}, {"28", "off(9, 5, 9)", "off(500, 400, 0)"}, {"29", "few(0, 0)", "few(0, 99)"},
        {"30", "best(0, 0)", "best(0, 1)"}, {"31", "lid(0, 0)", "lid(1, 9)"}, {"32", "form(1)", "form(15)"},
        {"33", "turn(0, 0)", "turn(0, 5)", "turn(0, 1000)"}, {"34", "door(0)", "door(2)"}, {"35", "two(0)", "two(1)"},
        {"36", "stop(1)", "stop(5000)"}, {"37", "pause(0, 0)", "pause(0, 1000)"}, {"41", "far(0, 0)", "far(1, 3)"},
        {"42", "who()"}};

    private static final String ASKED_AHEAD = "NONE is asked ahead of other answers below 0 (what a TEXT tells wrongly aside).";
    private static final String TELLS_NO_ROW = "A call that answers -2 tells no ROW (it stays).";
    private static final String REFUSED_CALLS = "Refused calls answer NONE, or false, and change nothing but THE TEXT";
    private static final String EMPTIES = "which a call that can read it empties, whatever it answers.";
    private static final String HOW_IT_WOULD_BE = "Where it says how it would be, it is FRESH, R is told (or 1), and THE STATE "
        + "and R are as they were behind it.";

    private final Edges e;

    private AheadEdges(Edges e) {
        this.e = e;
    }

    static void run(Edges e) {
        AheadEdges a = new AheadEdges(e);
        for (String[] calls : REFUSED) {
            e.test(Integer.parseInt(calls[0]), REFUSED_CALLS, () -> a.refused(calls));
        }
        e.test(11, REFUSED_CALLS, a::fullText);
        e.test(39, REFUSED_CALLS, a::fullOfSpots);
        e.test(43, REFUSED_CALLS, a::fullOfFilms);
        e.test(45, REFUSED_CALLS, () -> e.cup("steps(0)").none("reads()").row(0, 0, 0).is("count(6)", 0));
        e.test(13, EMPTIES, () -> a.empties("walk"));
        e.test(14, EMPTIES, () -> a.empties("law"));
        for (String[] calls : WOULD_BE) {
            e.test(Integer.parseInt(calls[0]), HOW_IT_WOULD_BE, () -> a.wouldBe(calls));
        }
        a.answersBelow0();
    }

    private void answersBelow0() {
        e.test(5, TELLS_NO_ROW, () -> noRow(e.cup(), "sheet(0, -1, 5, 5)"));
        e.test(18, TELLS_NO_ROW, () -> noRow(e.cup("sheet(2, 7, 0, 0)"), "swing(9)"));
        e.test(19, TELLS_NO_ROW, () -> noRow(e.cup("sheet(2, 7, 0, 0)"), "dies(9, 9)"));
        e.test(25, TELLS_NO_ROW, () -> noRow(e.cup(), "plan(400)"));
        e.test(27, TELLS_NO_ROW, () -> noRow(spilling(), "layers(0)"));
        e.test(29, TELLS_NO_ROW, () -> noRow(spilling(), "few(0, 99)"));
        e.test(32, TELLS_NO_ROW, () -> noRow(spilling(), "form(1)"));
        e.test(36, TELLS_NO_ROW, () -> noRow(spilling(), "stop(5000)"));
        e.test(42, TELLS_NO_ROW, this::whoTellsNoRow);
        e.test(5, ASKED_AHEAD, () -> e.cup().none("sheet(4, -1, 5, 5)", "sheet(3, 8, 5, 5)"));
        e.test(18, ASKED_AHEAD, () -> e.cup("sheet(2, 7, 0, 0)").none("swing(0)", "swing(501)").is("swing(1)", -2));
        e.test(19, ASKED_AHEAD, () -> e.cup("sheet(2, 7, 0, 0)").none("dies(0, 9)", "dies(9, 0)", "dies(9, 101)"));
        e.test(25, ASKED_AHEAD, () -> e.cup().none("plan(0)", "plan(401)").is("plan(400)", -2));
        e.test(27, ASKED_AHEAD, () -> spilling().none("layers(4)").is("layers(0)", -2));
        e.test(29, ASKED_AHEAD, () -> spilling().none("few(0, 100)", "few(4, 99)").is("few(0, 99)", -2));
        e.test(32, ASKED_AHEAD, () -> spilling().none("form(0)", "form(17)").is("form(1)", -2));
        e.test(36, ASKED_AHEAD, () -> spilling().none("stop(5001)").is("stop(5000)", -2));
        e.test(13, ASKED_AHEAD, () -> e.cup().walk(0, "", 0).walk(0, "x", -1).walk(4, "x", -100));
        e.test(14, ASKED_AHEAD, () -> e.cup().law(0, "", 0).law(0, "x", -1).law(3, "x", -100));
    }

    /** A cup that spills WALK 0 whatever is done. */
    private Asked spilling() {
        return e.cup("cup(7, 6, 6)").walks(0, "j90");
    }

    private void noRow(Asked x, String call) {
        x.walks(3, "g7,3,5*1").does("steps(3)").row(3, 21, 15).is(call, -2).row(3, 21, 15);
    }

    private void whoTellsNoRow() {
        e.cup().walks(3, "g7,3,5*1").does("steps(3)").walks(3, "").is("who()", -2).row(3, 21, 15);
    }

    /** One of which all can be told from another that has changed in anything. */
    private Asked busy() {
        Asked x = calm().does("tick(300, -200)", "keep(1)", "tick(10, 20)", "seed(77)", "steps(1)");
        return x.text("s7");
    }

    private Asked calm() {
        return e.cup("cup(3, 50, 40)", "set(1, 4)", "set(5, 1)", "set(6, 0)", "wall(1, 60)", "leads(0, 7)", "spot(3)",
            "film(10, 5, 2, 7)").law(0, "p-s/2", 0).walks(0, "w3;g40,4,30*3").walks(1, "j150;s4");
    }

    /** All that can be seen of it, the ROW first or not at all. */
    private String look(Asked x, boolean withRow) {
        StringBuilder sb = new StringBuilder();
        sb.append(withRow ? x.all("count(7)", "row(0)", "row(1)", "row(2)") : "");
        for (int what = 0; what <= 9; what++) {
            sb.append(what == 7 ? "" : x.all("count(" + what + ")"));
        }
        for (int row = 0; row < 2; row++) {
            for (int i = 0; i < 4; i++) {
                sb.append(x.all("cell(" + row + ", " + i + ", 0)", "cell(" + row + ", " + i + ", 1)",
                    "of(" + row + ", " + i + ")"));
            }
        }
        sb.append(x.all("stir(0)", "stir(1)", "gives(0, 9)", "gives(1, 9)", "gives(2, 9)", "walk(2)", "far(1, 3)"));
        for (int walk = 0; walk < 4; walk++) {
            sb.append(x.all("would(" + walk + ", 5)", "row(0)", "row(1)", "row(2)", "leads(" + walk + ", 1)"));
        }
        sb.append(x.all("fits(0, 3)", "row(0)", "row(1)", "reads()", "row(0)", "seed(1)", "wall(0, 1)", "wall(1, 1)"));
        for (int what = 0; what < 7; what++) {
            sb.append(x.all("set(" + what + ", 1)"));
        }
        return sb.append(x.all("again(0)", "again(2)", "again(1)", "count(3)", "of(0, 1)", "seed(1)", "wipe()")).toString();
    }

    private void refused(String[] calls) {
        String was = look(busy(), true);
        for (int i = 1; i < calls.length; i++) {
            Asked x = busy();
            String call = calls[i];
            if (call.matches("(cell|of|gives|row)\\(.*")) {
                x.noSuch(call);
            } else if (call.matches("(cup|tilt|end|keep|again)\\(.*")) {
                x.refused(call);
            } else {
                x.none(call);
            }
            e.is("all that can be seen behind " + call, look(x, true), was);
        }
    }

    private void fullText() {
        Asked x = busy().text("s7" + "x".repeat(75)).none("sign(1)").is("end(2)", true);
        e.is("all that can be seen behind sign()", look(x, true), look(busy(), true));
    }

    private void fullOfSpots() {
        Asked x = busy();
        for (int i = 2; i <= 12; i++) {
            x.is("spot(9)", i);
        }
        x.none("spot(9)").is("wipe()", 12).is("spot(3)", 1);
        e.is("all that can be seen behind spot()", look(x, true), look(busy(), true));
    }

    private void fullOfFilms() {
        Asked x = busy();
        Asked y = busy();
        for (int i = 2; i <= 20; i++) {
            x.is("film(" + i + ", 9, 8, 7)", i);
            y.is("film(" + i + ", 9, 8, 7)", i);
        }
        x.none("film(9, 9, 9, 9)");
        e.is("all that can be seen behind film()", look(x, true), look(y, true));
    }

    /** Calls that can read THE TEXT empty it, be it good, wrong, or none that they read; they change nothing else then. */
    private void empties(String call) {
        String was = look(busy().does("end(0)"), true);
        int most = call.equals("walk") ? 4 : 3;
        for (String signs : new String[] {"x", "", "p+", "s7;", "z".repeat(80)}) {
            for (int i : new int[] {-1, most, Integer.MAX_VALUE, Integer.MIN_VALUE}) {
                Asked x = busy().text(signs).is(call + "(" + i + ")", -100).is("count(8)", 0);
                e.is("all that can be seen behind " + call + "(" + i + ") of " + signs, look(x, true), was);
            }
            if (!signs.isEmpty()) {
                Asked x = busy().text(signs);
                e.is(call + " of " + signs, x.answerOf(call + "(0)") < 0, true);
                e.is("all that can be seen behind " + call + " of " + signs, look(x, true), was);
            }
        }
        String good = call.equals("walk") ? "s7" : "7";
        e.cup().text(good).does(call + "(0)").is("count(8)", 0);
        // calls that can't read it leave it
        busy().none("steps(4)", "would(4, 1)", "fits(2, 0)").does("go(0, 0, 3)", "steps(0)", "fresh()", "cup(2, 9, 9)")
            .is("count(8)", 2).is("walk(3)", 7);
    }

    private void wouldBe(String[] calls) {
        String was = look(busy(), false);
        for (int i = 1; i < calls.length; i++) {
            String all = calls[i] + " and its ROW";
            Asked stirred = busy();
            Asked still = calm().does("steps(1)");
            String[] asked = {calls[i], "count(7)", "row(0)", "row(1)", "row(2)", "row(3)"};
            e.is(all + ", stirred as FRESH", stirred.all(asked), still.all(asked));
            e.is("all that can be seen behind " + calls[i], look(stirred, false), was);
        }
    }
}
