import java.math.BigInteger;

/** Boundary cases of promises 11 to 17: texts, walks, laws, and to go. */
final class WalkEdges {
    private static final String THOUSAND = "g1,40,0*25";
    /** 990 TICKS in 40 signs. */
    private static final String MANY = "s99;".repeat(10);
    /** 58 signs; what comes behind them is at 58. */
    private static final String FIFTY_EIGHT = "j1;".repeat(18) + "j12;";

    private final Edges e;

    private WalkEdges(Edges e) {
        this.e = e;
    }

    static void run(Edges e) {
        WalkEdges w = new WalkEdges(e);
        w.ofTexts();
        w.ofWalk();
        w.ofLaw();
        w.ofGives();
        w.ofSteps();
        w.ofGo();
    }

    private void ofTexts() {
        e.test(11, "Four signs come behind THE TEXT, of v the highest byte first: how many it has.", this::signs);
        e.test(11, "Refused: there would be more than 80.", this::signRefused);
        e.test(12, "THE TEXT has its first n signs alone: true", this::end);
        e.test(12, "false if it has not so many, or n is below 0.", this::endRefused);
    }

    private void ofWalk() {
        e.test(13, "WALKS 0 .. 3 are texts of at most 60 signs (at first empty)", this::walks);
        e.test(13, "PARTS with ; between", this::parts);
        e.test(13, "g, a NUMBER (PUSH 0 .. 200), a comma, a NUMBER (TICKS 2 .. 40), a comma, a NUMBER (SWAY 0 .. 200), *, "
            + "a NUMBER (TIMES 1 .. 50): so many STEPS", this::stepNumbers);
        e.test(13, "s, a NUMBER (1 .. 99): stand so many TICKS", this::standNumbers);
        e.test(13, "j, perhaps -, a NUMBER (0 .. 200): a jerk of one TICK", this::jerkNumbers);
        e.test(13, "w, a NUMBER (0 .. 50): from here on WANDER is that (at first 0).", this::wanderNumbers);
        e.test(13, "NUMBERS of 1 to 3 digits.", this::digits);
        e.test(13, "A WALK has at most 1000 TICKS.", this::thousand);
        e.test(13, "THE TEXT is a WALK: how many TICKS it has.", this::walkTicks);
        e.test(13, "-1 - p: the sign at p can't stand there", this::wrongSigns);
        e.test(13, "(its end, if it ends too early", this::endsTooEarly);
        e.test(13, "60, if it has more and the first 60 could go on or end", this::moreThanSixty);
        e.test(13,
            "a NUMBER that is too small or too great, or by which the WALK has too many TICKS, as far as it stands in the "
            + "first 60: at its last digit)", this::lastDigits);
        e.test(13, "-100: no such WALK (asked first).", this::noSuchWalk);
    }

    private void ofLaw() {
        e.test(14, "LAWS 0 .. 2 of a hand are texts of at most 40 signs (at first none).", this::laws);
        e.test(14, "THE TEXT is a LAW (an empty one: there is none then): 0.", this::emptyLaw);
        e.test(14, "a NUMBER of 1 to 3 digits", this::lawDigits);
        e.test(14, "an EXPRESSION in ( ) (at most 4 in one another)", this::brackets);
        e.test(14, "-1 - p: the sign at p can't stand there, as walk() (40 signs)", this::wrongLaws);
        e.test(14, "as walk() (40 signs); -100: no such LAW (asked first).", this::noSuchLaw);
    }

    private void ofGives() {
        e.test(15, "EXPRESSION: + - (from the left), then * / (from the left; by 0: 0; cut to 0), then - ahead of a thing "
            + "(any many)", this::expressions);
        e.test(15, "p the PUSH ALONG (with what it wandered)", this::pushWandered);
        e.test(15,
            "s SLOPE ALONG as it was as the TICK began that went by LATE TICKS ahead of this one (LATE 0: now; 0, if so "
            + "many did not go by since it was FRESH)", this::slopesSeen);
        e.test(15, "t the TICK, f FOAM, h the HEIGHT of the first CELL ALONG, now.", this::things);
        e.test(15, "As ints.", this::asInts);
        e.test(15, "The PUSH ALONG is that, put to -500 .. 500.", this::lawBounds);
        e.test(15, "What a LAW would give for a PUSH (-500 .. 500) now (put to its bounds).", this::gives);
        e.test(15, "NoSuchElementException: others, no such LAW.", this::givesRefused);
    }

    private void ofSteps() {
        e.test(16, "STEPS of a WALK; the ROW: its TICKS, the sum of the sizes of its PUSHES ALONG (without WANDER), ACROSS.",
            this::steps);
        e.test(16, "NONE: none such.", () -> e.cup().is("steps(0)", 0)
            .none("steps(-1)", "steps(4)", "steps(MAX)", "steps(MIN)").row(0, 0, 0).is("steps(3)", 0));
    }

    private void ofGo() {
        e.test(17, "In a STEP of n TICKS the PUSH ALONG is PUSH in the first n by 2 (cut), then less PUSH", this::halves);
        e.test(17, "ACROSS it is SWAY in STEPS 0, 2, .., less SWAY in 1, 3, .. (STEPS are counted through the WALK).",
            this::sways);
        e.test(17, "s: both 0. j: the number ALONG, 0 ACROSS.", this::standsAndJerks);
        e.test(17, "s: both 0.", () -> pushes("w0;s3", new int[3], new int[3]));
        e.test(17, "j: the number ALONG, 0 ACROSS.", () -> pushes("j200;j-200;j0;j-0", new int[] {200, -200, 0, 0},
            new int[4]));
        e.test(17,
            "While WANDER is above 0, ahead of each TICK a DRAW of (twice WANDER and 1) less WANDER comes to the PUSH "
            + "ALONG.", this::wanders);
        e.test(17,
            "A DRAW of n: R = R times 1103515245 + 12345 (as ints; R at first 1), (R as an unsigned int, by 65536) % n.",
            this::draws);
        e.test(17, "THE HAND is a LAW, or 3: none (the PUSH as it is, as by a LAW that is not told; at first 3).",
            this::hands);
        e.test(17, "n TICKS of a WALK from its TICK from on (those it has) go by, by THE HAND", this::thoseItHas);
        e.test(17, "what was SPILT in them, both ROWS.", this::goSpills);
        e.test(17, "Refused: others (from, n 0 .. 1000).", this::goRefused);
    }

    private WalkEdges walk(String signs, long want) {
        e.cup().walk(0, signs, want);
        return this;
    }

    private WalkEdges law(String signs, long want) {
        e.cup().law(0, signs, want);
        return this;
    }

    private void signs() {
        Asked x = e.cup("sign(1932606314)").is("count(8)", 4);
        // 's' '1' ';' 'j', then '-' '7' and two of the lowest sign
        x.is("sign(758579200)", 8).is("end(6)", true).is("walk(0)", 2).is("steps(0)", 0).row(2, 7, 0);
        x.is("sign(0)", 4).is("end(1)", true).is("walk(0)", -1).is("sign(-1)", 4).is("walk(0)", -1);
        x.is("sign(MIN)", 4).is("walk(0)", -1).is("sign(" + ('s' << 24 | '1' << 16 | 255) + ")", 4);
        x.is("walk(0)", -3);
        for (int i = 1; i <= 20; i++) {
            x.is("sign(-1)", 4 * i);
        }
    }

    private void signRefused() {
        Asked x = e.cup();
        for (int i = 1; i <= 19; i++) {
            x.is("sign(1)", 4 * i);
        }
        x.is("count(8)", 76).is("sign(1)", 80).none("sign(1)").is("count(8)", 80);
        for (int n = 79; n >= 77; n--) {
            x.is("end(" + n + ")", true).none("sign(1)").is("count(8)", n);
        }
        x.is("end(76)", true).is("sign(1)", 80).none("sign(0)");
        // a refused sign() leaves the signs
        e.cup().text("s7" + "x".repeat(76)).none("sign(-1)").is("end(2)", true).is("walk(0)", 7);
    }

    private void end() {
        e.cup().is("end(0)", true).is("count(8)", 0).text("s42;j-7").is("end(7)", true).is("count(8)", 7).is("end(3)", true)
            .is("count(8)", 3).is("walk(1)", 42).does("sign(1)").is("end(1)", true).is("end(0)", true).is("count(8)", 0);
    }

    private void endRefused() {
        e.cup().refused("end(1)", "end(-1)").text("s42").refused("end(4)", "end(80)", "end(-1)", "end(MAX)")
            .refused("end(MIN)").is("count(8)", 3).is("walk(0)", 42).refused("end(1)");
        // signs that went can't come back
        e.cup().text("s42").is("end(2)", true).refused("end(3)").is("walk(0)", 4);
    }

    private void walks() {
        String sixty = "j1;".repeat(19) + "j12";
        Asked x = e.cup();
        for (int i = 0; i <= 3; i++) {
            x.is("steps(" + i + ")", 0).row(0, 0, 0).walk(i, sixty, 20).walk(i, sixty + "3", -61).is("steps(" + i + ")", 0);
            x.row(20, 31, 0);
        }
        x.walk(4, sixty, -100).walk(-1, sixty, -100).walk(0, "", 0).is("steps(0)", 0).row(0, 0, 0);
    }

    private void parts() {
        e.cup().walk(0, "s1", 1).walk(0, "s1;s2", 3).walk(0, ";", -1).walk(0, ";s1", -1).walk(0, "s1;", -4)
            .walk(0, "s1;;s2", -4).walk(0, "s1 s2", -3).walk(0, "s1s2", -3).walk(0, "w1;w2", 0).walk(0, "s1;s2;", -7);
    }

    private void stepNumbers() {
        walk("g0,2,0*1", 2).walk("g200,40,200*25", 1000).walk("g200,2,200*50", 100);
        walk("g201,2,0*1", -4).walk("g999,2,0*1", -4).walk("g1,1,0*1", -4).walk("g1,0,0*1", -4);
        walk("g1,41,0*1", -5).walk("g1,40,0*1", 40).walk("g1,2,201*1", -8).walk("g1,2,200*1", 2);
        walk("g1,2,0*0", -8).walk("g1,2,0*50", 100).walk("g1,2,0*51", -9).walk("g1,2,0*1", 2);
    }

    private void standNumbers() {
        walk("s1", 1).walk("s99", 99).walk("s0", -2).walk("s100", -4).walk("s099", 99);
    }

    private void jerkNumbers() {
        e.cup().walk(0, "j0", 1).walk(0, "j-0", 1).walk(0, "j200", 1).walk(0, "j-200", 1).walk(0, "j201", -4)
            .walk(0, "j-201", -5).walk(0, "j--1", -3).walk(0, "j+1", -2);
    }

    private void wanderNumbers() {
        e.cup().walk(0, "w0", 0).walk(0, "w50", 0).walk(0, "w51", -3).walk(0, "w50;s1", 1).walk(0, "w-1", -2);
        // at first 0: no DRAW in the TICKS ahead of it, and one for each behind it
        Asked x = e.cup().walks(0, "s2;w1;s1").does("go(0, 0, 2)").is("seed(1)", 1).does("go(0, 2, 1)")
            .is("seed(1)", draw(1));
        x.walks(0, "w1;s1;w0;s1").does("go(0, 1, 1)").is("seed(1)", 1).does("go(0, 0, 2)").is("seed(1)", draw(1));
        // at first 0 in each WALK, whatever the one ahead of it told, be it good or not
        x = e.cup().walks(0, "w5").walks(1, "s1").walks(2, "s1").walks(3, "s1").walk(0, "w5;x", -4).walks(0, "s1");
        x.does("go(0, 0, 1)", "go(1, 0, 1)", "go(2, 0, 1)", "go(3, 0, 1)").is("count(3)", 4).is("seed(1)", 1);
    }

    private void digits() {
        walk("g001,002,000*001", 2).walk("s099", 99).walk("j-007", 1).walk("w050;s5", 5);
        walk("j0001", -5).walk("j-0000", -6).walk("w0010", -5).walk("g0001,2,0*1", -5);
        walk("g1,0020,0*1", -7).walk("g1,2,0000*1", -9).walk("g1,2,0*0010", -11).walk("s0011", -5);
        walk("g,2,0*1", -2).walk("g1,,0*1", -4).walk("g1,2,*1", -6).walk("g1,2,0*", -8).walk("s;s1", -2);
        walk("j;s1", -2).walk("j-;s1", -3).walk("w;s1", -2);
    }

    private void thousand() {
        walk(THOUSAND, 1000).walk(THOUSAND + ";s1", -13).walk(THOUSAND + ";j1", -13);
        walk(THOUSAND + ";w9", 1000).walk(THOUSAND + ";g1,2,0*1", -19).walk("g1,40,0*26", -10);
        walk(MANY + "s10", 1000).walk(MANY + "s11", -43).walk(MANY + "s9;j0", 1000).walk(MANY + "s9;s2", -45);
        walk(MANY + "s8;g1,2,0*1", 1000).walk(MANY + "s9;g1,2,0*1", -51).walk(MANY + "s10;j0", -46);
        walk("g1,39,0*25;s25", 1000).walk("g1,39,0*25;s26", -14);
    }

    private void walkTicks() {
        Asked x = e.cup().walk(0, "", 0).walk(0, "w9", 0).walk(0, "s1", 1).walk(0, "g10,4,5*2;s3;j-7", 12);
        // a text that is none leaves the WALK as it was
        x.walk(0, THOUSAND + ";q", -12).is("steps(0)", 2).row(12, 87, 40).walk(0, THOUSAND, 1000).is("steps(0)", 25);
        x.walk(0, "", 0).is("steps(0)", 0).row(0, 0, 0).does("go(0, 0, 1000)").is("count(3)", 0);
    }

    private void wrongSigns() {
        for (char sign : new char[] {0, ' ', ',', '-', '0', ';', 'G', 'h', 127, 128, 255}) {
            walk(String.valueOf(sign), -1).walk("s1;" + sign, -4).walk("g" + (sign == '0' ? ' ' : sign), -2);
        }
        walk("g1;2,0*1", -3).walk("g1,2;0*1", -5).walk("g1,2,0,1", -7).walk("g1,2,0*1,", -9);
        walk("s1-", -3).walk("s-1", -2).walk("j1-", -3).walk("w1,", -3).walk("j-x", -3);
        // the digits 0 and 9, and the signs ahead of and behind them
        walk("s9", 9).walk("s10", 10).walk("s1/", -3).walk("s1:", -3).walk("s/", -2).walk("s:", -2);
    }

    private void endsTooEarly() {
        String whole = "g1,2,0*1";
        for (int n = 1; n < whole.length(); n++) {
            walk(whole.substring(0, n), -1 - n);
        }
        walk("s", -2).walk("j", -2).walk("j-", -3).walk("w", -2).walk("s1;", -4).walk("s1;j-", -6);
        // the sixtieth sign is the last one that may come
        walk(FIFTY_EIGHT + "s9", 28).walk(FIFTY_EIGHT + "j-", -61).walk(FIFTY_EIGHT + "s", -60);
        walk("j1;".repeat(20), -61).walk(FIFTY_EIGHT, -59);
    }

    private void moreThanSixty() {
        for (String more : new String[] {"1", ";", "x", "0;s1"}) {
            walk("j1;".repeat(19) + "j12" + more, -61).walk("j1;".repeat(20) + more, -61);
            walk(FIFTY_EIGHT + "j-" + more, -61).walk(FIFTY_EIGHT + "j1" + more, -61);
            walk(FIFTY_EIGHT + "w0" + more, -61).walk("j1;".repeat(19) + "s12" + more, -61);
            walk(FIFTY_EIGHT + "1" + more, -59).walk(FIFTY_EIGHT + "sx" + more, -60);
        }
        // the first 60 end in the midst of a STEP's telling
        String steps = "s1;".repeat(18);
        for (String cut : new String[] {"g1,2,0", "g1,12,", "g10,20", "g100,2", "g100,4"}) {
            walk(steps + cut + "0*1", -61);
        }
        walk(steps + "g1,2,0" + "*10", -61).walk("s1;".repeat(17) + "g10,2,10*" + "1", -61);
        walk("j1;".repeat(26), -61).walk("j1;".repeat(26) + "s1", -61).walk("x".repeat(80), -1);
    }

    private void lastDigits() {
        walk("s000", -4).walk("s00", -3).walk("s0;", -2).walk("g1,001,0*1", -6);
        walk("g2010,2,0*1", -4).walk("g1,1,0*99", -4).walk("g1,2,999x", -8).walk("j-999", -5);
        walk("g1,40,0*26;x", -10).walk("g1,40,0*50", -10).walk("g1,40,0*99", -10).walk(THOUSAND + ";s01", -14);
        walk(THOUSAND + ";j201", -15).walk(THOUSAND + ";j-5x", -14).walk(THOUSAND + ";s0", -13);
        // as far as it stands in the first 60: 0 of 05 is too small, 20 of 201 is not too great, and 6 of 60 is too many
        walk(FIFTY_EIGHT + "s0" + "5", -60).walk("j1;".repeat(19) + "j20" + "1", -61);
        walk("j1;".repeat(19) + "w51" + "0", -60).walk("j1;".repeat(19) + "s00" + "1", -60);
        walk("s1;".repeat(18) + "g100,1" + "0,0*1", -60).walk("s1;".repeat(18) + "g100,4" + "1,0*1", -61);
        String almost = MANY + "s5;" + "w1;".repeat(5) + "s";
        walk(almost + "5", 1000).walk(almost + "1" + "0", -61).walk(almost + "5" + "0", -61);
        walk(almost + "6", -60).walk(almost + "6" + "0", -60).walk(almost + "0" + "1", -60);
    }

    private void noSuchWalk() {
        Asked x = e.cup().walk(-1, "s1", -100).walk(4, "s1", -100).walk(4, "x", -100).walk(4, "", -100)
            .walk(-1, "s1;", -100);
        x.walk(Integer.MAX_VALUE, "s1", -100).walk(Integer.MIN_VALUE, "s0", -100).walk(4, "j1;".repeat(26), -100);
        x.is("steps(0)", 0).row(0, 0, 0).is("steps(3)", 0).row(0, 0, 0).walk(3, "s1", 1).walk(0, "x", -1);
    }

    private void laws() {
        String forty = "11" + "+1".repeat(19);
        Asked x = e.cup().noSuch("gives(0, 0)", "gives(1, 0)", "gives(2, 0)").is("count(4)", 0);
        for (int i = 0; i <= 2; i++) {
            x.law(i, forty, 0).is("gives(" + i + ", 0)", 30).law(i, forty + "1", -41).is("gives(" + i + ", 0)", 30);
        }
        x.is("count(4)", 7).law(3, forty, -100).law(-1, forty, -100);
    }

    private void emptyLaw() {
        Asked x = e.cup().law(2, "7", 0).is("count(4)", 4).is("gives(2, 0)", 7).law(2, "", 0).is("count(4)", 0);
        x.noSuch("gives(2, 0)").none("fits(2, 0)", "far(0, 2)", "helps(0, 2)").law(2, "", 0).law(0, "p", 0)
            .is("count(4)", 1);
    }

    private void lawDigits() {
        e.cup().law(0, "0", 0).law(0, "999", 0).is("gives(0, 0)", 500).law(0, "007", 0).is("gives(0, 0)", 7)
            .law(0, "1000", -4).law(0, "0000", -4).law(0, "p+0007", -6).is("gives(0, 0)", 7).law(0, "1 0", -2)
            .law(0, "12p", -3).law(0, "9", 0).is("gives(0, 0)", 9).law(0, "/", -1).law(0, ":", -1).law(0, "1:", -2);
    }

    private void brackets() {
        e.cup().law(0, "((((7))))", 0).is("gives(0, 0)", 7).law(0, "(((((7)))))", -5).law(0, "((((1))))+((((2))))", 0)
            .is("gives(0, 0)", 3).law(0, "((((1)+(2))))", 0).is("gives(0, 0)", 3).law(0, "((((1+(2)))))", -7)
            .law(0, "((((-(p", -6)
            .law(0, "()", -2).law(0, "(", -2).law(0, "(1", -3).law(0, "1)", -2).law(0, "((((1)))))", -10).law(0, ")", -1);
    }

    private void wrongLaws() {
        for (char sign : new char[] {0, ' ', '+', '*', '/', ')', 'q', 'P', ',', ';', 127, 128, 255}) {
            law(String.valueOf(sign), -1).law("p+" + sign, -3);
        }
        law("-", -2).law("p-", -3).law("p*", -3).law("(p-", -4).law("pp", -2).law("p(1)", -2);
        // 40 signs: their end, if they end too early; 40, if there are more and they could go on or end
        law("p" + "+1".repeat(19) + "0", 0).law("-".repeat(39) + "p", 0).law("-".repeat(40), -41);
        for (String more : new String[] {"1", "+", "x", "+1"}) {
            law("-".repeat(39) + "p" + more, -41).law("-".repeat(40) + more, -41).law("1+".repeat(20) + more, -41);
            law("1+".repeat(18) + "((1)" + more, -41).law("1+".repeat(19) + "1x" + more, -40);
        }
        law("1+".repeat(18) + "1000", -40).law("1+".repeat(18) + "1+99" + "9", -41).law("x".repeat(80), -1);
        law("1+".repeat(18) + "p100", -38).law("1+".repeat(18) + "1" + "0000", -40);
        // a text that is none leaves the LAW as it was
        e.cup().law(0, "p*2", 0).law(0, "p*", -3).law(0, "", 0).law(1, "7", 0).law(1, "1".repeat(4), -4).is("count(4)", 2)
            .is("gives(1, 12)", 7);
    }

    private void noSuchLaw() {
        e.cup().law(-1, "p", -100).law(3, "p", -100).law(3, "q", -100).law(3, "", -100).law(-1, "p+", -100)
            .law(Integer.MAX_VALUE, "p", -100).law(Integer.MIN_VALUE, "p", -100).is("count(4)", 0).law(2, "p", 0)
            .law(0, "q", -1);
    }

    private void expressions() {
        Asked x = e.cup();
        gives(x, "20-3-4", 13);
        gives(x, "20-(3-4)", 21);
        gives(x, "100/7/2", 7);
        gives(x, "100/(7/2)", 33);
        gives(x, "7/2*2", 6);
        gives(x, "2*7/2", 7);
        gives(x, "2+3*4-5", 9);
        gives(x, "p/0", 0);
        gives(x, "0/0", 0);
        gives(x, "9/0+4", 4);
        gives(x, "5+2*0", 5);
        gives(x, "5-(4-0)", 1);
        gives(x, "0-0-7", -7);
        gives(x, "9/(p-p)*3", 0);
        gives(x, "-7/2", -3);
        gives(x, "7/-2", -3);
        gives(x, "-7/-2", 3);
        gives(x, "-1/2", 0);
        gives(x, "1/2", 0);
        gives(x, "2*-3", -6);
        gives(x, "1--1", 2);
        gives(x, "1---1", 0);
        gives(x, "--5", 5);
        gives(x, "-(2-5)*2", 6);
        gives(x, "-".repeat(39) + "5", -5);
        gives(x, "-".repeat(38) + "5", 5);
        gives(x, "-2*3+1", -5);
    }

    private void gives(Asked x, String law, int want) {
        x.law(0, law, 0).is("gives(0, 50)", want);
    }

    private void pushWandered() {
        // what wandered is ahead of the LAW: twice (10 and what the DRAW makes of it)
        for (int seed = 1; seed <= 6; seed++) {
            int push = 10 + drawn(seed, 101) - 50;
            Asked x = e.cup("cup(2, 999, 500)", "set(1, 0)", "set(6, 1)", "seed(" + seed + ")").law(1, "p*2", 0);
            x.walks(0, "w50;j10").does("go(0, 0, 1)").flows(0, 2 * push);
        }
    }

    /** HEIGHTS 70, 30 when FRESH and tilted; SLOPES as TICKS began are told by of(). */
    private void slopesSeen() {
        Asked x = e.cup("cup(2, 100, 50)").law(0, "s", 0).does("fresh()", "tilt(0, 20)");
        int[] began = new int[24];
        for (int tick = 0; tick < 24; tick++) {
            began[tick] = x.answerOf("of(0, 0)");
            for (int late = 0; late <= 20; late++) {
                if (late > 2 && late < 19 && late != tick && late != tick + 1) {
                    continue;
                }
                int want = late == 0 ? began[tick] : late > tick ? 0 : began[tick - late];
                x.does("set(5, " + late + ")").is("gives(0, 0)", want);
            }
            x.does("tick(" + 9 * tick + ", 50)");
        }
        e.is("SLOPES differ", began[0] != began[1] && began[3] != began[23], true);
        x = e.cup("cup(2, 100, 50)", "tilt(0, 20)", "tick(0, 0)", "set(5, 1)").law(0, "s", 0).is("gives(0, 0)", 40);
        x.does("fresh()").is("gives(0, 0)", 0).does("tilt(0, 7)").is("gives(0, 0)", 0).does("tick(0, 0)")
            .is("gives(0, 0)", 14);
        x.does("set(5, 0)", "tilt(0, 9)").is("gives(0, 0)", 18);
    }

    private void things() {
        Asked x = e.cup("cup(2, 100, 50)", "set(2, 9)").law(0, "t", 0).law(1, "f", 0).law(2, "h", 0);
        x.is("gives(0, 0)", 0).is("gives(1, 0)", 9).is("gives(2, 0)", 50).does("tick(0, 0)", "tilt(0, 50)", "set(2, 0)");
        x.is("gives(0, 0)", 1).is("gives(1, 0)", 0).is("gives(2, 0)", 100).does("tilt(0, -50)").is("gives(2, 0)", 0);
        x.does("tilt(1, 50)").is("gives(2, 0)", 0).does("fresh()").is("gives(0, 0)", 0).is("gives(2, 0)", 50);
        // h is not put to RIM: under a LID more may stand
        e.cup("cup(2, 100, 100)", "set(1, 0)", "set(4, 100)", "tick(-80, 0)").law(0, "h", 0).is("gives(0, 0)", 110);
    }

    private void asInts() {
        Asked x = e.cup();
        gives(x, "999*999*999*999/999/999/99", 999 * 999 * 999 * 999 / 999 / 999 / 99);
        gives(x, "128*256*256*256/999/999/9", Integer.MIN_VALUE / 999 / 999 / 9);
        gives(x, "-(128*256*256*256)/999/999/9", Integer.MIN_VALUE / 999 / 999 / 9);
        gives(x, "128*256*256*256/-1/999/999/9", Integer.MIN_VALUE / 999 / 999 / 9);
        gives(x, "(128*256*256*256-1)/999/999/9", Integer.MAX_VALUE / 999 / 999 / 9);
        gives(x, "256*256*256*256", 0);
    }

    private void lawBounds() {
        int[][] due = {{499, 499}, {500, 500}, {501, 500}, {999, 500}};
        Asked x = e.cup();
        for (int[] d : due) {
            gives(x, String.valueOf(d[0]), d[1]);
            gives(x, "-" + d[0], -d[1]);
        }
        x = e.cup("cup(2, 999, 500)", "set(1, 0)", "set(6, 0)").law(0, "p*3", 0).walks(0, "j200;j-200;j166;j-167");
        int[] pushes = {500, -500, 498, -500};
        for (int i = 0; i < pushes.length; i++) {
            x.does("fresh()", "go(0, " + i + ", 1)").flows(0, pushes[i]);
        }
    }

    private void gives() {
        e.cup().law(0, "p", 0).is("gives(0, 500)", 500).is("gives(0, -500)", -500).law(0, "p+1", 0).is("gives(0, 500)", 500)
            .is("gives(0, 499)", 500).is("gives(0, 498)", 499).law(2, "p-1", 0).is("gives(2, -500)", -500)
            .is("gives(2, -499)", -500).is("gives(2, -498)", -499).is("count(3)", 0);
    }

    private void givesRefused() {
        e.cup().law(1, "p", 0).noSuch("gives(1, 501)", "gives(1, -501)", "gives(0, 1)", "gives(2, 1)", "gives(3, 1)")
            .noSuch("gives(-1, 1)", "gives(1, MAX)", "gives(1, MIN)", "gives(MAX, 0)")
            .noSuch("gives(MIN, 0)").is("gives(1, 1)", 1);
    }

    private void steps() {
        Asked x = e.cup().is("steps(1)", 0).row(0, 0, 0).walks(1, "s9;j0;w9").is("steps(1)", 0).row(10, 0, 0);
        x.walks(1, "g200,40,200*25").is("steps(1)", 25).row(1000, 200000, 200000).walks(1, "g1,3,2*1").is("steps(1)", 1);
        x.row(3, 3, 6).walks(1, "j-200;j200;w50;j-1").is("steps(1)", 0).row(3, 401, 0);
        x.walks(1, "g0,2,0*50;".repeat(5) + "g0,2,0*50").is("steps(1)", 300).row(600, 0, 0);
    }

    private void halves() {
        pushes("g9,2,0*2", new int[] {9, -9, 9, -9}, new int[4]);
        pushes("g9,3,0*2", new int[] {9, -9, -9, 9, -9, -9}, new int[6]);
        pushes("g200,4,0*1", new int[] {200, 200, -200, -200}, new int[4]);
        int[] forty = new int[40];
        java.util.Arrays.fill(forty, 0, 20, 7);
        java.util.Arrays.fill(forty, 20, 40, -7);
        pushes("g7,40,0*1", forty, new int[40]);
        int[] odd = java.util.Arrays.copyOf(forty, 39);
        odd[19] = -7;
        pushes("g7,39,0*1", odd, new int[39]);
    }

    private void sways() {
        int[] sides = {9, 9, 0, -8, -8, 8, 8, 0, -200, -200, -200, 1, 1};
        pushes("g1,2,9*1;s1;g1,2,8*2;j5;g1,3,200*1;w0;g1,2,1*1", new int[] {1, -1, 0, 1, -1, 1, -1, 5, 1, -1, -1, 1, -1},
            sides);
    }

    private void standsAndJerks() {
        pushes("s2;j7;s1;j-200;j0", new int[] {0, 0, 7, 0, -200, 0}, new int[6]);
        pushes("g3,2,4*1;s1;j-6", new int[] {3, -3, 0, -6}, new int[] {4, 4, 0, 0});
    }

    /** From FRESH each FLOW of a cup that loses nothing is the PUSH. */
    private void pushes(String walk, int[] along, int[] across) {
        Asked x = e.cup("cup(2, 999, 500)", "set(1, 0)").walk(0, walk, along.length);
        for (int i = 0; i < along.length; i++) {
            x.does("fresh()", "go(0, " + i + ", 1)").flows(0, along[i]).flows(1, across[i]);
        }
    }

    private void wanders() {
        String walk = "j9;w1;s1;j5;g7,2,3*1;w0;j9;w50;j0";
        int[] along = {9, 0, 5, 7, -7, 9, 0};
        int[] across = {0, 0, 0, 3, 3, 0, 0};
        int[] wander = {0, 1, 1, 1, 1, 0, 50};
        Asked x = e.cup("cup(2, 999, 500)", "set(1, 0)").walk(0, walk, along.length);
        int r = 1;
        for (int i = 0; i < along.length; i++) {
            int push = along[i] + (wander[i] == 0 ? 0 : drawn(r, 2 * wander[i] + 1) - wander[i]);
            r = wander[i] == 0 ? r : draw(r);
            x.does("fresh()", "go(0, " + i + ", 1)").flows(0, push).flows(1, across[i]).is("seed(" + r + ")", r);
        }
        least("w1;s1", 1);
        least("w50;s1", 50);
    }

    /** The least and the greatest that a DRAW can bring. */
    private void least(String walk, int wander) {
        int n = 2 * wander + 1;
        for (int want : new int[] {0, n - 1}) {
            int seed = 1;
            while (drawn(seed, n) != want) {
                seed++;
            }
            Asked x = e.cup("cup(2, 999, 500)", "set(1, 0)", "seed(" + seed + ")").walks(0, walk).does("go(0, 0, 1)");
            x.flows(0, want - wander);
        }
    }

    private void draws() {
        int[] seeds = {1, 0, -1, 2, Integer.MAX_VALUE, Integer.MIN_VALUE, 65536, -65536, 123456789, -123456789};
        boolean below = false;
        for (int seed : seeds) {
            Asked x = e.cup("cup(2, 999, 500)", "set(1, 0)").is("seed(" + seed + ")", 1).walks(0, "w50;s1");
            x.does("go(0, 0, 1)").flows(0, drawn(seed, 101) - 50).is("seed(1)", draw(seed));
            below |= draw(seed) < 0;
        }
        e.is("R goes below 0 in some", below, true);
        e.is("the first R", draw(1), 1103527590);
    }

    private static BigInteger wide(int r) {
        BigInteger next = BigInteger.valueOf(r).multiply(BigInteger.valueOf(1103515245)).add(BigInteger.valueOf(12345));
        return next.mod(BigInteger.ONE.shiftLeft(32));
    }

    private static int draw(int r) {
        return wide(r).intValue();
    }

    private static int drawn(int r, int n) {
        return wide(r).divide(BigInteger.valueOf(65536)).mod(BigInteger.valueOf(n)).intValue();
    }

    private void hands() {
        Asked x = e.cup("cup(2, 999, 500)", "set(1, 0)").walks(0, "j40").law(0, "p*2", 0).law(2, "p*3", 0);
        x.does("go(0, 0, 1)").flows(0, 40);
        int[] pushes = {80, 40, 120, 40};
        for (int hand = 0; hand <= 3; hand++) {
            x.does("set(6, " + hand + ")", "fresh()", "go(0, 0, 1)").flows(0, pushes[hand]);
        }
        x.law(0, "", 0).does("set(6, 0)", "fresh()", "go(0, 0, 1)").flows(0, 40).is("set(6, 3)", 0);
    }

    private void thoseItHas() {
        Asked x = e.cup().walks(0, "g9,4,5*3").does("go(0, 0, 12)").is("count(3)", 12).does("fresh()", "go(0, 0, 1000)");
        x.is("count(3)", 12).does("fresh()").is("go(0, 12, 5)", 0).is("count(3)", 0).is("go(0, 0, 0)", 0).is("count(3)", 0);
        x.does("go(0, 11, 1000)").is("count(3)", 1).does("go(0, 11, 0)").is("count(3)", 1).is("go(0, 1000, 1000)", 0);
        x.is("go(1, 0, 1000)", 0).is("count(3)", 1).walks(0, THOUSAND).does("fresh()", "go(0, 999, 1000)").is("count(3)", 1);
        x.does("go(0, 0, 1000)").is("count(3)", 1001).does("go(0, 1, 1000)").is("count(3)", 2000);
    }

    private void goSpills() {
        // 200 by 8 is 25: of 80 and 25 above 100 are 5, in each ROW
        Asked x = e.cup("cup(2, 100, 80)", "set(0, 1)", "set(1, 0)").walks(0, "g200,2,200*1;s1").is("go(0, 0, 1)", 10);
        x.is("of(0, 1)", 5).is("of(1, 1)", 5).does("fresh()").walks(0, "g0,2,160*1").is("go(0, 0, 1)", 0).does("fresh()");
        x.walks(0, "g0,2,168*1").is("go(0, 0, 1)", 1).is("go(0, 0, 0)", 0).is("of(1, 1)", 1);
    }

    private void goRefused() {
        e.cup().walks(0, "s9").none("go(-1, 0, 1)", "go(4, 0, 1)", "go(0, -1, 1)", "go(0, 1001, 1)", "go(0, 0, -1)")
            .none("go(0, 0, 1001)", "go(MAX, 0, 1)", "go(0, MAX, 1)", "go(0, 1, MAX)")
            .none("go(MIN, 0, 1)", "go(0, MIN, 1)", "go(0, 1, MIN)")
            .is("count(3)", 0).is("go(3, 1000, 1000)", 0).is("go(0, 0, 1000)", 0).is("count(3)", 9);
    }
}
