/** The boundary cases of letters: "A RIVER is told in letters ..", FAULT, promises 2 and 3. */
public final class EdgesOfLettersTest {
    private static final Due due = new Due("EdgesOfLettersTest");
    private static final String SEVEN = "p009999;".repeat(7);

    public static void main(String[] args) {
        leastAndGreatestLetter();
        eightyLetters();
        lettersAreNoMoreThen();
        atLeastOneStatement();
        howManyStatements();
        aRiverOfEightyLetters();
        wrongAtEachPlace();
        endAtEachPlace();
        oneDigitTooFew();
        oneDigitTooMany();
        neighboursOfLetters();
        theFirstWrongLetterIsTold();
        faultsOfEightyLetters();
        yardsOutOfRange();
        kindOutOfRange();
        noSuchYard();
        nobodySuch();
        oneTwice();
        whoIsOver();
        noRoom();
        theFirstWrongStatementIsTold();
        kind1GoesAheadOfKind2();
        yardsBeginAnew();
        yardsLeaveWhoIsOver();
        fewerYardsAndMoreAgain();
        grudgeOrNone();
        whoWasThere();
        fromYardToYard();
        statementsSeeWhatCameBefore();
        withAFaultNothingComes();
        aFaultIsNotCounted();
        due.end();
    }

    private static void answers(String letters, int want) {
        due.is("river() of \"" + letters + "\"", Due.tell(new OverByTheHand(), letters), want);
    }

    /** feed: "-4; -6 (255 ..)": letters 0 .. 255. */
    private static void leastAndGreatestLetter() {
        OverByTheHand x = new OverByTheHand();
        due.is("feed(-1)", x.feed(-1), -4);
        due.is("feed(0)", x.feed(0), 1);
        due.is("feed(255)", x.feed(255), 2);
        due.is("feed(256)", x.feed(256), -6);
        due.is("letters", x.count(8), 2);
    }

    /** "(80 at most)"; feed: "how many there are", "-6 (..; 80, too)". */
    private static void eightyLetters() {
        OverByTheHand x = new OverByTheHand();
        for (int n = 1; n <= 80; n++) {
            due.is("feed, letter " + n, x.feed('c'), n);
        }
        due.is("feed, letter 81", x.feed('c'), -6);
        due.is("letters", x.count(8), 80);
        x.river();
        due.is("feed, when there is room again", x.feed('c'), 1);
    }

    /** river: "The letters, which are no more then": behind a RIVER and behind a FAULT of each kind. */
    private static void lettersAreNoMoreThen() {
        for (String letters : new String[] {"", "c", "c5", "c5;", "y6;", "c5;c"}) {
            OverByTheHand x = new OverByTheHand();
            Due.tell(x, letters);
            due.is("letters behind \"" + letters + "\"", x.count(8), 0);
            due.is("river() again", x.river(), -1000);
            due.is("a RIVER behind \"" + letters + "\"", Due.tell(x, "c7;"), 1);
            due.is("COLD", x.count(2), 7);
        }
    }

    /** "At least one STATEMENT."; "the end, if something lacks". */
    private static void atLeastOneStatement() {
        answers("", -1000);
        answers(";", -1000);
        answers("c0;", 1);
    }

    /** river: "how many STATEMENTS". */
    private static void howManyStatements() {
        answers("y1;", 1);
        answers("y1;y5;", 2);
        answers("c1;".repeat(25), 25);
        answers("c1;".repeat(26), 26);
    }

    /** "(80 at most)": 80 letters can be a RIVER, to the last of them. */
    private static void aRiverOfEightyLetters() {
        OverByTheHand x = new OverByTheHand();
        due.is("80 letters", Due.tell(x, "d000;".repeat(15) + "d289;"), 16);
        due.is("DEPTH by the last STATEMENT", x.yard(2, 0), 8);
        due.is("PULL by the last STATEMENT", x.yard(2, 1), 9);
    }

    private static final String[] FORMS = {"y3;", "d012;", "c4;", "p012345;", "g01;", "i00;"};

    /** "FAULT: kind 1 the place of the first letter with which no RIVER can go on .. : -1000 less the place". */
    private static void wrongAtEachPlace() {
        // what stands beside the digits, and letters that begin a STATEMENT, but not here
        String wrong = "/:yp \u0000\u00ff";
        for (String form : FORMS) {
            for (int place = 1; place < form.length(); place++) {
                for (char c : wrong.toCharArray()) {
                    answers(form.substring(0, place) + c, -1000 - place);
                    answers("c1;" + form.substring(0, place) + c + form.substring(place), -1003 - place);
                }
            }
        }
    }

    /** "(the end, if something lacks)". */
    private static void endAtEachPlace() {
        for (String form : FORMS) {
            for (int place = 1; place < form.length(); place++) {
                answers(form.substring(0, place), -1000 - place);
                answers("c1;" + form.substring(0, place), -1003 - place);
            }
        }
    }

    /** "each with ";" behind", "(a digit each)": a ";" too early is the first wrong letter. */
    private static void oneDigitTooFew() {
        for (String form : FORMS) {
            int least = form.charAt(0) == 'p' ? form.length() - 2 : form.length() - 1;
            for (int place = 1; place < least; place++) {
                answers(form.substring(0, place) + ";", -1000 - place);
            }
        }
    }

    /** "(a digit)", "(a digit each)", "(1 or 2 digits)": one more is the first wrong letter. */
    private static void oneDigitTooMany() {
        for (String form : FORMS) {
            int end = form.length() - 1;
            answers(form.substring(0, end) + "0;", -1000 - end);
        }
        answers("p01234;", 1);
        answers("p012345;", 1);
        answers("p0123;", -1005);
        answers("p0123456;", -1007);
    }

    /** "STATEMENTS, each with ";" behind: "y" .. "d" .. "c" .. "p" .. "g" .. "i"": no other letter begins one. */
    private static void neighboursOfLetters() {
        for (char c = 0; c < 256; c++) {
            if ("ydcpgi".indexOf(c) < 0) {
                answers(String.valueOf(c), -1000);
                answers(c + "1;", -1000);
                answers("c1;" + c, -1003);
            } else {
                answers(String.valueOf(c), -1001);
            }
        }
    }

    /** "the place of the first letter with which no RIVER can go on": later ones are not told. */
    private static void theFirstWrongLetterIsTold() {
        answers("c1;x1;x2;", -1003);
        answers("cx;yx;", -1001);
        answers("c1;;", -1003);
        answers("c1 ;", -1002);
        answers("c1; ", -1003);
        answers(" c1;", -1000);
        answers("C1;", -1000);
        answers("c-1;", -1001);
    }

    /** "(80 at most)" and "(the end, if something lacks)": faults at the last letters and at the end of 80. */
    private static void faultsOfEightyLetters() {
        String most = "c1;".repeat(26);
        answers(most + "c1", -1080);
        answers(most + "cc", -1079);
        answers(most + "xc", -1078);
        answers("c1;".repeat(24) + "d000;" + "y0;", -2077);
        answers("c1;".repeat(25) + "d300;", -2075);
    }

    /** "kind 2 .. (a number out of range ..): -2000 less the place": YARDS 1 .. 5. */
    private static void yardsOutOfRange() {
        answers("y0;", -2000);
        answers("y1;", 1);
        answers("y5;", 1);
        answers("y6;", -2000);
        answers("c1;y6;", -2003);
    }

    /** "(a number out of range ..)": KINDS 0 .. 5. */
    private static void kindOutOfRange() {
        answers("p00000;", 1);
        answers("p50000;", 1);
        answers("p60000;", -2000);
        answers("p59999;p99999;", -2007);
    }

    /** "(.. no such YARD ..)": for "d" and for "i". */
    private static void noSuchYard() {
        for (int n = 1; n <= 5; n++) {
            answers("y" + n + ";d" + (n - 1) + "99;", 2);
            answers("y" + n + ";d" + n + "00;", -2003);
            answers("p00000;y" + n + ";i" + (n - 1) + "0;", 3);
            answers("p00000;y" + n + ";i" + n + "0;", -2010);
        }
        answers("d200;", 1);
        answers("d300;", -2000);
        answers("d900;", -2000);
    }

    /** "(.. nobody such ..)": for "g" and for "i". */
    private static void nobodySuch() {
        answers("i00;", -2000);
        answers("g01;", -2000);
        answers("p00000;i00;", 2);
        answers("p00000;i01;", -2007);
        answers("p00000;i09;", -2007);
        answers("p00000;g01;", -2007);
        answers("p00000;g10;", -2007);
        answers("p00000;p00000;g01;g10;", 4);
        answers("p00000;p00000;g12;", -2014);
        answers("p00000;p00000;g20;", -2014);
        OverByTheHand x = Due.river(SEVEN);
        due.is("g of the last two", Due.tell(x, "g56;"), 1);
        due.is("g of one behind the last", Due.tell(x, "g67;"), -2000);
        due.is("i of the last", Due.tell(x, "i06;"), 1);
        due.is("i of one behind the last", Due.tell(x, "i07;"), -2000);
    }

    /** "(.. one twice ..)". */
    private static void oneTwice() {
        answers("p00000;p00000;g00;", -2014);
        answers("p00000;p00000;g11;", -2014);
        answers("g00;", -2000);
    }

    /** "(.. who is OVER ..)": for "i" alone. */
    private static void whoIsOver() {
        OverByTheHand x = Due.river("y1;c0;p009999;p009999;i01;");
        x.cross(0);
        due.is("i of who is OVER", Due.tell(x, "i00;"), -2000);
        due.is("i behind another STATEMENT", Due.tell(x, "y5;i40;"), -2003);
        due.is("who is in the YARD yet", x.yard(0, 2), 1);
        due.is("g of who is OVER", Due.tell(x, "g01;"), 1);
        x.out();
        due.is("i of who is OVER no more", Due.tell(x, "i00;"), 1);
    }

    /** "(.. no room)": for the eighth. */
    private static void noRoom() {
        answers(SEVEN, 7);
        answers(SEVEN + "p009999;", -2056);
        OverByTheHand x = Due.river("p00000;".repeat(6));
        due.is("two, where there is room for one", Due.tell(x, "p00000;p00000;"), -2007);
        due.is("PEOPLE", x.count(1), 6);
        due.is("one", Due.tell(x, "p00000;"), 1);
        due.is("one more", Due.tell(x, "p00000;"), -2000);
        due.is("PEOPLE", x.count(1), 7);
    }

    /** "kind 2 the place of the first letter of the first STATEMENT that is not as it must be". */
    private static void theFirstWrongStatementIsTold() {
        answers("y6;y0;", -2000);
        answers("y5;d500;y6;", -2003);
        answers("y5;d499;c9;g01;i50;", -2011);
    }

    /** "FAULT: kind 1 ..; else kind 2": kind 1 is told, even if kind 2 stands ahead of it. */
    private static void kind1GoesAheadOfKind2() {
        answers("y6;x", -1003);
        answers("y6;y0", -1005);
        answers("y6", -1002);
        answers("p90000", -1006);
        answers("i99;d999;c", -1010);
    }

    /** ""y" YARDS ..: all have DEPTH, PULL 2 then, all who were in the water are on the near bank". */
    private static void yardsBeginAnew() {
        OverByTheHand x = Due.river("y5;c4;" + SEVEN, "d090;d109;d299;d300;d456;", "g06;i00;i11;i22;i33;i46;");
        due.is("in the water", x.count(4), 5);
        due.is("as many YARDS anew", Due.tell(x, "y5;"), 1);
        for (int k = 0; k < 5; k++) {
            due.is("DEPTH of YARD " + k, x.yard(k, 0), 2);
            due.is("PULL of YARD " + k, x.yard(k, 1), 2);
            due.is("who is in YARD " + k, x.yard(k, 2), -9);
        }
        for (int p = 0; p < 7; p++) {
            due.is("where " + p + " is", x.person(p, 8), -9);
        }
        due.is("in the water", x.count(4), 0);
        due.is("COLD stays", x.count(2), 4);
        due.is("the GRUDGE stays", x.grudge(0, 6), 1);
        due.is("PEOPLE stay", x.count(1), 7);
    }

    /** ""y" ..: all who were in the water are on the near bank": who is OVER was not in the water. */
    private static void yardsLeaveWhoIsOver() {
        OverByTheHand x = Due.river("y1;c0;p009999;p009999;i01;");
        x.cross(0);
        Due.tell(x, "y2;");
        due.is("who is OVER", x.person(0, 8), 9);
        due.is("who was in the water", x.person(1, 8), -9);
        due.is("MINUTE stays", x.count(3), 1);
        due.is("HOURS stay", x.owes(0, 1), 1);
    }

    /** ""y" ..: all have DEPTH, PULL 2 then": YARDS that were no more for a while, too. */
    private static void fewerYardsAndMoreAgain() {
        OverByTheHand x = Due.river("y5;p009999;p009999;d499;i40;i11;");
        Due.tell(x, "y1;");
        due.is("where he is, whose YARD is no more", x.person(0, 8), -9);
        due.is("in the water", x.count(4), 0);
        Due.tell(x, "y5;");
        due.is("DEPTH of the last", x.yard(4, 0), 2);
        due.is("PULL of the last", x.yard(4, 1), 2);
        due.is("who is in the last", x.yard(4, 2), -9);
    }

    /** ""g" two ..: a GRUDGE, or, if there was one, none". */
    private static void grudgeOrNone() {
        OverByTheHand x = Due.river("p00000;p00000;p00000;g02;");
        due.is("a GRUDGE", x.grudge(2, 0), 1);
        Due.tell(x, "g20;");
        due.is("none", x.grudge(0, 2), 0);
        Due.tell(x, "g02;g20;g02;");
        due.is("a GRUDGE", x.grudge(0, 2), 1);
        due.is("GRUDGES", x.count(6), 1);
    }

    /** ""i" a YARD, somebody ..: he is in it (who was there is on the near bank)". */
    private static void whoWasThere() {
        OverByTheHand x = Due.river("p00000;p00000;i20;");
        due.is("who is there", x.yard(2, 2), 0);
        Due.tell(x, "i21;");
        due.is("who is there", x.yard(2, 2), 1);
        due.is("who was there", x.person(0, 8), -9);
        Due.tell(x, "i21;");
        due.is("he again", x.yard(2, 2), 1);
        due.is("where he is", x.person(1, 8), 2);
        due.is("in the water", x.count(4), 1);
    }

    /** "Each is on the near bank (at first), in a YARD, or OVER": not in two YARDS. */
    private static void fromYardToYard() {
        OverByTheHand x = Due.river("p00000;p00000;i20;i01;");
        Due.tell(x, "i00;");
        due.is("who is in YARD 0", x.yard(0, 2), 0);
        due.is("who is in YARD 2", x.yard(2, 2), -9);
        due.is("who was in YARD 0", x.person(1, 8), -9);
        due.is("in the water", x.count(4), 1);
    }

    /** "nobody such", "no such YARD": as it is behind the STATEMENTS ahead of it. */
    private static void statementsSeeWhatCameBefore() {
        answers("i00;p00000;", -2000);
        answers("p00000;i00;", 2);
        answers("d400;y5;", -2000);
        answers("y5;d400;", 2);
        answers("y5;d400;y1;d100;", -2011);
        answers("g01;p00000;p00000;", -2000);
    }

    /** "Without FAULT all of it comes, with one nothing." */
    private static void withAFaultNothingComes() {
        String all = "y2;c9;p00000;g02;i12;d199;";
        OverByTheHand x = Due.river("y4;p009999;p119988;g01;i00;i31;c3;");
        String before = Due.look(x);
        due.is("a FAULT of kind 2 behind all", Due.tell(x, all + "y6;"), -2026);
        due.same("all as it was", Due.look(x), before);
        due.is("a FAULT of kind 1 behind all", Due.tell(x, all + "y"), -1027);
        due.same("all as it was", Due.look(x), before);
        due.is("without FAULT", Due.tell(x, all), 6);
        int[] counts = {2, 3, 9, 0, 1, 0, 2};
        for (int what = 0; what < counts.length; what++) {
            due.is("count(" + what + ")", x.count(what), counts[what]);
        }
        due.is("DEPTH", x.yard(1, 0), 9);
        due.is("who is in YARD 1", x.yard(1, 2), 2);
        due.is("GRUDGE", x.grudge(2, 0), 1);
    }

    /** river: "the FAULT (nothing is counted)". */
    private static void aFaultIsNotCounted() {
        OverByTheHand x = new OverByTheHand();
        Due.tell(x, "");
        Due.tell(x, "x");
        Due.tell(x, "y6;");
        Due.tell(x, "i00;");
        for (int what = 11; what <= 16; what++) {
            due.is("count(" + what + ")", x.count(what), 0);
        }
    }
}
