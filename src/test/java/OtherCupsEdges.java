/** Boundary cases of promises 32 to 38: other cups, a door, two hands. */
final class OtherCupsEdges {
    private final Edges e;

    private OtherCupsEdges(Edges e) {
        this.e = e;
    }

    static void run(Edges e) {
        OtherCupsEdges o = new OtherCupsEdges(e);
        e.test(32, "The fewest CELLS (2 .. 20), RIM, FILL and all else as they are, no WALLS", o::form);
        e.test(32, "none of WALKS told as bits (1 .. 15) would have anything SPILT, R 1.", o::formBits);
        e.test(32, "-2: none; NONE: others.", o::formRefused);
        o.ofTurnAndDoor();
        e.test(35, "it has the WALK's TICKS from one on alone (0 .. 40)", o::twoLater);
        e.test(35,
            "of these the one with which both together have the least SPILT, R 1 for each; of equal ones the first: it; "
            + "the ROW: what the first cup, the second one has SPILT.", o::twoRow);
        e.test(35, "NONE: none such.", o::twoRefused);
        o.ofStop();
        o.ofPause();
        e.test(38,
            "of a ROW the sum of squares of (HEIGHT less FILL) of its CELLS, and of FLOWS by 8 (cut) at its GAPS.", o::stir);
        e.test(38, "NONE: others.", o::stirRefused);
    }

    private void ofTurnAndDoor() {
        e.test(33, "From a TICK (0 .. 1000) of a WALK on PUSHES ALONG come ACROSS, and those ACROSS ALONG", this::turn);
        e.test(33, "(what THE HAND gave, and WANDER, go with the first)", this::turnHand);
        e.test(33, "what would be SPILT, R 1; the ROW: the same without the turn.", this::turnRow);
        e.test(33, "NONE: others.", this::turnRefused);
        e.test(34, "Of TICKS 0, 10, 20, .. of a WALK (up to its TICKS, that too)", this::doorTens);
        e.test(34, "the one with which the least would be SPILT, R 1; of equal ones the first: it; the ROW: that.",
            this::doorFirst);
        e.test(34, "NONE: none such.", this::doorRefused);
    }

    private void ofStop() {
        e.test(36, "the fewest TICKS n (1 .. 200) in which so much (1 .. 5000) can be taken off", this::stop);
        e.test(36, "with nothing SPILT in these and 100 TICKS behind (without PUSHES)", this::stopBehind);
        e.test(36, "each of the n TICKS has a PUSH ALONG of it by n, cut, and 1 more in the first ones, as many as the rest",
            this::stopRest);
        e.test(36,
            "none above 500 (THE HAND does nothing): n; the ROW: the greatest HEIGHT of any end CELL at any TICK's end.",
            this::stopAbove500);
        e.test(36, "-2: none; NONE: others.", this::stopRefused);
    }

    private void ofPause() {
        e.test(37, "A pause at a TICK (0 .. 1000; behind its last one, if it has not so many) of a WALK", this::pauseAt);
        e.test(37, "before it so many TICKS (0 .. 40) go by without PUSHES (THE HAND does nothing in them)",
            this::pauseTicks);
        e.test(37, "of these the one with which the least would be SPILT, R 1; of equal ones the least: it; the ROW: that.",
            this::pauseLeast);
        e.test(37, "NONE: others.", this::pauseRefused);
    }

    /** Half of all FLOW is lost: a jerk of 16 lets 1 go over in its TICK, and nothing behind it; 99 and 1 are RIM. */
    private Asked dull(String walk) {
        return e.cup("cup(2, 100, 99)", "set(0, 1)", "set(1, 50)").walks(0, walk);
    }

    private void form() {
        Asked x = e.cup("cup(8, 142, 82)", "set(0, 5)", "set(1, 0)").walks(0, "s2;g9,19,4*6").is("form(1)", 20);
        x.is("count(0)", 8).is("count(7)", 0).is("form(2)", 2);
        e.cup("cup(4, 7, 3)").walks(0, "j62").is("form(1)", 2);
        e.cup("cup(2, 75, 54)", "set(0, 9)").walks(0, "g20,6,9*4").is("form(1)", 3);
        // a WALL that keeps all is no matter, nor a FILL that does not spill in the cup as it is
        Asked y = e.cup("cup(7, 6, 6)", "sheet(2, 6, 0, 0)").walks(0, "j30").is("would(0, 1)", 0).is("form(1)", -2);
        y.is("count(9)", 6).is("count(0)", 7);
    }

    private void formBits() {
        Asked x = e.cup("cup(6, 53, 31)", "set(0, 16)").walks(0, "s2;g12,6,10*2;s8").walks(1, "g4,5,15*6");
        x.is("form(1)", 2).is("form(2)", 3).is("form(3)", 7).is("form(15)", 7).is("form(12)", 2);
        Asked y = e.cup("cup(7, 6, 6)").walks(3, "j30").is("form(8)", -2).is("form(7)", 2).is("form(15)", -2);
        y.walks(3, "").walks(0, "j30").is("form(1)", -2).is("form(14)", 2);
    }

    private void formRefused() {
        e.cup("steps(0)").none("form(0)", "form(16)", "form(-1)", "form(17)", "form(MAX)", "form(MIN)")
            .row(0, 0, 0).is("form(1)", 2).is("form(15)", 2);
        e.cup("cup(7, 6, 6)").walks(0, "j30").does("steps(0)").is("form(1)", -2).row(1, 30, 0);
    }

    private void turn() {
        // jerks in TICKS 0 and 10: the second spills, if both go the same way
        Asked x = dull("j16;s9;j16").is("would(0, 1)", 1).is("turn(0, 0)", 1).row(1).is("turn(0, 1)", 0).row(1);
        x.is("turn(0, 10)", 0).row(1).is("turn(0, 11)", 1).row(1).is("turn(0, 12)", 1).is("turn(0, 1000)", 1).row(1);
        // those ACROSS come ALONG: SWAY of 16 in 2 TICKS lets 1 and 1 go over
        dull("g0,2,16*1").is("would(0, 1)", 1).is("turn(0, 0)", 1).is("turn(0, 1)", 0).row(1).is("turn(0, 2)", 1);
        dull("").is("turn(0, 0)", 0).row(0).is("turn(0, 1000)", 0).row(0);
        // the last TICK of 1000
        String late = "s99;".repeat(10) + "s8;j16;j16";
        dull(late).is("turn(0, 1000)", 1).row(1).is("turn(0, 999)", 0).row(1).is("turn(0, 998)", 1).row(1);
    }

    private void turnHand() {
        // the hand gives 16 in both TICKS: the second spills, if it goes the same way
        dull("s2").does("set(6, 2)").law(2, "16", 0).is("turn(0, 0)", 1).row(1).is("turn(0, 1)", 0).row(1)
            .is("turn(0, 2)", 1);
        // DRAWS bring 22 and -5: all of it to the other ROW, or the second alone
        Asked x = e.cup("cup(2, 14, 12)", "set(0, 1)", "set(1, 0)").walks(0, "w50;s2").is("would(0, 1)", 2)
            .is("turn(0, 0)", 2);
        x.row(2).is("turn(0, 1)", 2).is("turn(0, 2)", 2).does("cup(2, 16, 12)").is("turn(0, 0)", 0).is("turn(0, 1)", 0);
        // by the hand's LAW SLOPE is seen ALONG still
        dull("s1;g0,4,40*2").does("set(6, 0)").law(0, "p-s*9", 0).is("turn(0, 1)", 67).row(12);
    }

    private void turnRow() {
        dull("j16;s9;j16").does("seed(8)", "tick(500, 500)").is("turn(0, 5)", 0).row(1).is("seed(1)", 8).is("count(3)", 1);
        dull("j8").is("turn(0, 0)", 0).row(0);
        dull("j24").is("turn(0, 0)", 0).row(0).walks(0, "j32").is("turn(0, 0)", 1).row(1);
    }

    private void turnRefused() {
        e.cup("steps(0)").none("turn(-1, 0)", "turn(4, 0)", "turn(0, -1)", "turn(0, 1001)", "turn(MAX, 0)")
            .none("turn(MIN, 0)", "turn(0, MAX)", "turn(0, MIN)").row(0, 0, 0)
            .is("turn(3, 1000)", 0).row(0).is("turn(0, 0)", 0);
    }

    private void doorTens() {
        // jerks in TICKS 0 and 10 of 11: a door at 10 is between them
        dull("j16;s9;j16").is("door(0)", 10).row(0);
        // in TICKS 0 and 9 of 10: no door is between them
        dull("j16;s8;j16").is("door(0)", 0).row(1);
        // in TICKS 1 and 10 of 11, in 9 and 19 of 20
        dull("s1;j16;s8;j16").is("door(0)", 10).row(0);
        dull("s9;j16;s9;j16").is("door(0)", 10).row(0);
        dull("s10;j16;s9;j16").is("door(0)", 20).row(0);
        // its TICKS themselves, where nothing turns: by a hand that holds still ALONG
        String[] walks = {"g100,3,0*2", "g20,5,40*2"};
        int[] ticks = {6, 10};
        for (int i = 0; i < walks.length; i++) {
            e.cup("set(6, 0)").law(0, "p-s", 0).walk(0, walks[i], ticks[i]).is("door(0)", ticks[i]);
        }
        dull("").is("door(0)", 0).row(0);
        dull("w9").is("door(0)", 0).row(0);
        dull("s1").is("door(0)", 0).row(0);
        // 991 TICKS: 990 is the last of the tens, and jerks are in TICKS 989 and 990
        dull("s99;".repeat(9) + "s98;j16;j16").is("door(0)", 990).row(0);
    }

    private void doorFirst() {
        // jerks in TICKS 0, 10 and 20 of 21: doors at 10 and at 20 let 1 be SPILT, those at 0 and 21 let 2
        dull("j16;s9;j16;s9;j16").is("turn(0, 0)", 2).is("turn(0, 10)", 1).is("turn(0, 20)", 1).is("turn(0, 21)", 2)
            .is("door(0)", 10).row(1);
        dull("s99").is("door(0)", 0).row(0);
    }

    private void doorRefused() {
        e.cup("steps(0)").none("door(-1)", "door(4)", "door(MAX)", "door(MIN)").row(0, 0, 0)
            .is("door(3)", 0).row(0);
    }

    private void twoLater() {
        // the second cup must be taken up behind the jerk: at once, in the next TICK .., in the last that may be; too late
        dull("s9").is("two(0)", 0).row(0, 0);
        dull("j32").is("two(0)", 1).row(1, 0);
        dull("s1;j32").is("two(0)", 2).row(1, 0);
        dull("s38;j32").is("two(0)", 39).row(1, 0);
        dull("s39;j32").is("two(0)", 40).row(1, 0);
        dull("s40;j32").is("two(0)", 0).row(1, 1);
        // fewer TICKS than 40: from behind the last one on there is none
        dull("").is("two(0)", 0).row(0, 0);
        dull("j32;j32").is("two(0)", 2).row(4, 0);
    }

    private void twoRow() {
        // jerks of which each pair spills: without the first the second cup has 1, without two none, as without three
        dull("j16;j16;j16").is("two(0)", 2).row(2, 0);
        // TICKS are counted for each cup from its own first one on, STEPS as in the WALK
        dull("s5").does("set(6, 0)").law(0, "t/4*32", 0).is("two(0)", 1).row(1, 0);
        dull("g0,2,4*1;g0,2,32*1").is("would(0, 1)", 3).is("two(0)", 4).row(3, 0);
        // both by THE HAND: one that steadies what it sees ALONG
        e.cup("set(6, 0)").law(0, "p+s", 0).walks(0, "g60,12,0*4").is("two(0)", 40).row(269, 59).walks(0, "g20,8,0*4")
            .is("two(0)", 2).row(2, 0);
        // R 1 for each: the first DRAWS bring 22, -5
        e.cup("cup(2, 14, 12)", "set(0, 1)", "set(1, 0)", "seed(6)").walks(0, "w50;s2").is("two(0)", 1).row(2, 0)
            .is("seed(1)", 6);
        e.cup("cup(2, 13, 12)", "set(0, 1)", "set(1, 0)").walks(0, "w50;s1;w0;s1").is("two(0)", 1).row(3, 0);
    }

    private void twoRefused() {
        e.cup("steps(0)").none("two(-1)", "two(4)", "two(MAX)", "two(MIN)").row(0, 0, 0)
            .is("two(3)", 0).row(0, 0);
    }

    private void stop() {
        // half is lost of each: 14 leaves 7, 15 leaves 8, but 8 and 7 leave 4 and 6; of 24, 12 and 12 leave 6 and 9, three
        // times 8 leave 4, 6 and 7
        Asked x = e.cup("cup(2, 100, 100)", "set(0, 1)", "set(1, 50)").is("stop(1)", 1).row(100).is("stop(14)", 1);
        x.is("stop(15)", 2).is("stop(16)", 2).is("stop(17)", 2).is("stop(24)", 3).row(100);
        e.cup("cup(3, 134, 88)").is("stop(2208)", 200).is("stop(2209)", -2).is("stop(5000)", -2);
        e.cup("cup(2, 999, 500)", "set(1, 50)").is("stop(5000)", 10).row(870).is("stop(1)", 1).row(500)
            .none("stop(5001)", "stop(0)");
    }

    private void stopBehind() {
        // what would be SPILT in the 100th TICK behind alone keeps 29 TICKS from being enough, and 5 of the next
        spillsAlone(e.cup("cup(5, 143, 125)", "set(0, 6)").is("stop(36)", 30).row(139), 36, 29, 100);
        spillsAlone(e.cup("cup(8, 31, 10)", "set(0, 16)").is("stop(54)", 8).row(31), 54, 5, 100);
        // what would be SPILT in the 101st is not looked at
        spillsAlone(e.cup("cup(9, 53, 14)", "set(0, 6)").is("stop(54)", 3).row(53), 54, 3, 101);
    }

    private void spillsAlone(Asked x, int speed, int n, int behind) {
        x.is("fresh()", 0);
        for (int i = 0; i < n; i++) {
            x.is("tick(" + (speed / n + (i < speed % n ? 1 : 0)) + ", 0)", 0);
        }
        for (int i = 1; i < behind; i++) {
            x.is("tick(0, 0)", 0);
        }
        e.is("SPILT in TICK " + behind + " behind", x.answerOf("tick(0, 0)") > 0, true);
    }

    private void stopRest() {
        // nothing is lost, and 8 of FLOW let 1 go over: of 7 and 8 that is SPILT in the second TICK, of 8 and 7 in the first
        Asked x = e.cup("cup(2, 100, 100)", "set(0, 1)", "set(1, 0)").is("stop(7)", 1).row(100).is("stop(8)", -2).row(100);
        x.is("stop(15)", -2).does("set(1, 50)");
        // 29 in 4 TICKS: 8, 7, 7, 7 leave 4, 6, 7, 7
        x.is("stop(29)", 4).is("stop(28)", 4).is("stop(22)", 3).is("stop(23)", 3);
        // with 1 more in the last ones 5 TICKS would be enough, 29 in the other cup
        e.cup("cup(4, 77, 47)", "set(0, 13)", "set(1, 0)").is("stop(72)", 6);
        e.cup("cup(2, 44, 27)", "set(0, 2)", "set(1, 0)").is("stop(47)", 35);
    }

    private void stopAbove500() {
        Asked x = e.cup("cup(2, 999, 500)", "set(1, 50)", "set(6, 0)").law(0, "500", 0).is("stop(500)", 1).row(548);
        x.is("stop(501)", 2).row(547).is("stop(1000)", 2).row(596).is("stop(1001)", 3).row(593).is("stop(1500)", 3).row(641);
        x.is("stop(1501)", 4).row(638);
        e.cup("cup(2, 1, 0)").is("stop(500)", 1).row(0).is("stop(501)", 2).row(0).is("stop(5000)", 10).row(0);
    }

    private void stopRefused() {
        e.cup("cup(2, 100, 100)", "set(1, 0)", "steps(0)").is("stop(8)", -2).row(0, 0, 0)
            .none("stop(0)", "stop(5001)", "stop(-1)").none("stop(MAX)", "stop(MIN)").row(0, 0, 0);
    }

    private void pauseAt() {
        // nothing is lost: a jerk back in the next TICK stops what goes over; a TICK later 2 more were SPILT
        Asked x = e.cup("cup(2, 100, 98)", "set(0, 1)", "set(1, 0)").walks(0, "j16;j-16");
        x.is("pause(0, 0)", 0).row(0).is("pause(0, 1)", 0).row(0).is("pause(0, 2)", 0).row(0).is("pause(0, 1000)", 0).row(0);
        // behind the last one: what goes over in the pause counts as well
        e.cup("cup(2, 100, 97)", "set(0, 1)", "set(1, 0)").walks(0, "j16").is("pause(0, 1)", 0).row(0)
            .is("pause(0, 1000)", 0).row(0).is("pause(0, 0)", 0).row(0);
        e.cup("cup(4, 26, 16)").walk(0, "g36,7,8*3", 21).is("pause(0, 21)", 0).is("pause(0, 22)", 0).is("pause(0, 1000)", 0);
        dull("").is("pause(0, 0)", 0).row(0).is("pause(0, 1000)", 0).row(0);
        // before it: before TICK 1 a pause helps, before 0 and before 2 it does not
        Asked y = e.cup("cup(2, 62, 50)", "set(0, 16)", "set(1, 5)").walks(0, "j80;j80").is("would(0, 1)", 13);
        y.is("pause(0, 0)", 0).row(13).is("pause(0, 2)", 0).row(13).is("pause(0, 1)", 4).row(7);
    }

    private void pauseTicks() {
        e.cup("cup(4, 26, 16)").walks(0, "g36,7,8*3").is("pause(0, 11)", 40).row(40);
        e.cup("cup(3, 82, 57)").walks(0, "w5;g45,9,39*1").is("pause(0, 1)", 39).row(78);
        e.cup("cup(3, 46, 26)").walks(0, "g38,21,5*6").is("pause(0, 8)", 1).row(49);
        // THE HAND does nothing in it, but sees that TICKS go by: from TICK 3 on it holds still
        dull("s1;j32").does("set(6, 1)").law(1, "(1-t/3)*p", 0).is("would(0, 1)", 1).is("pause(0, 1)", 2).row(0)
            .is("pause(0, 0)", 2).row(0);
        dull("s2").does("set(6, 1)").law(1, "32", 0).is("pause(0, 0)", 0).row(4).is("pause(0, 1)", 0).row(4);
    }

    private void pauseLeast() {
        dull("j32").is("pause(0, 0)", 0).row(1).walks(0, "s9").is("pause(0, 5)", 0).row(0);
        e.cup("cup(2, 100, 98)", "set(0, 1)", "set(1, 0)", "seed(5)").walks(0, "j16;j-16").is("pause(0, 1)", 0).row(0)
            .is("seed(1)", 5).is("count(3)", 0);
    }

    private void pauseRefused() {
        e.cup("steps(0)").none("pause(-1, 0)", "pause(4, 0)", "pause(0, -1)", "pause(0, 1001)", "pause(MAX, 0)")
            .none("pause(MIN, 0)", "pause(0, MAX)", "pause(0, MIN)").row(0, 0, 0)
            .is("pause(3, 1000)", 0).row(0).is("pause(0, 0)", 0);
    }

    private void stir() {
        Asked x = e.cup("cup(2, 100, 50)", "set(0, 1)", "set(1, 0)").is("stir(0)", 0).is("stir(1)", 0).does("tick(7, -7)");
        x.is("stir(0)", 0).is("stir(1)", 0).does("fresh()", "tick(8, -8)").is("stir(0)", 3).is("stir(1)", 3);
        x.does("fresh()", "tick(15, -15)").is("stir(0)", 3).is("stir(1)", 3).does("fresh()", "tick(16, -16)");
        x.is("stir(0)", 12).is("stir(1)", 12).does("tilt(0, -50)").is("stir(0)", 5000);
        // in sum more than an int can tell does not come; it is much all the same
        Asked y = e.cup("cup(20, 999, 999)", "set(0, 1)", "set(1, 0)", "set(4, 100)");
        for (int i = 0; i < 40; i++) {
            y.does("tick(500, 0)");
        }
        e.is("much stirred", Long.parseLong(y.all("stir(0)").replaceAll("(?s).*: |\\n", "")) > 100_000_000L, true);
    }

    private void stirRefused() {
        e.cup("tilt(0, 9)").none("stir(-1)", "stir(2)", "stir(MAX)", "stir(MIN)").is("stir(1)", 0);
    }
}
