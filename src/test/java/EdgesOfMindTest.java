/** The boundary cases of what is only thought of: CHAINS to OVERS; promises 15 to 21. */
public final class EdgesOfMindTest {
    private static final Due due = new Due("EdgesOfMindTest");
    private static final String SEVEN = "p009999;".repeat(7);

    public static void main(String[] args) {
        chainsOfNobody();
        chainsOfTooFewAndJustEnough();
        chainsOfAll();
        chainsLessWhoIsOver();
        chainsOfWhoCanJustStand();
        chainsBetweenGrudges();
        longestOfNone();
        longestThatLasts0();
        longestOfSeveral();
        longestOfEachYard();
        longestLessWhoIsOver();
        longestKeepsNothingOfBefore();
        makeUpNone();
        makeUpTheMost();
        makeUpWhereNoneWould();
        makeUpLessWhoIsOver();
        worthWhereNoneStands();
        worthNothing();
        worthOfWhoIsOver();
        worthLasting0();
        worthIsOnlyThoughtOf();
        changeOfNobody();
        changeIsLongerThanNow();
        changeOfWhatDoesNotStand();
        changeThatLasts0();
        changeTheLeastOfSeveral();
        changeTheLongestOfAll();
        changeFromTheNearBankAlone();
        changeOfAnEmptyYard();
        floodBy0();
        floodBy9AtMost();
        floodOfTheShallowest();
        floodOfNone();
        oversOfNobody();
        oversAsLongAsItLasts();
        oversOfTheNearBankAlone();
        nothingIsChangedInMind();
        due.end();
    }

    private static void longestIs(OverByTheHand x, String when, int minutes, int... who) {
        due.is("longest(-1) " + when, x.longest(-1), minutes);
        for (int k = 0; k < who.length; k++) {
            due.is("longest(" + k + ") " + when, x.longest(k), who[k]);
        }
        due.is("longest(" + who.length + ") " + when, x.longest(who.length), -1);
    }

    /** chains: "CHAINS: how many STAND.": none of nobody. */
    private static void chainsOfNobody() {
        due.is("chains() of a new object", new OverByTheHand().chains(), 0);
        due.is("chains() of nobody in one YARD", Due.river("y1;d000;").chains(), 0);
    }

    /** "A CHAIN: in each YARD just one": fewer PEOPLE than YARDS, as many, one more. */
    private static void chainsOfTooFewAndJustEnough() {
        int[] orders = {1, 2, 6, 24, 120};
        for (int yards = 1; yards <= 5; yards++) {
            OverByTheHand x = Due.river("y" + yards + ";" + SEVEN.substring(0, 8 * (yards - 1)) + "c1;");
            due.is("chains() of one too few", x.chains(), 0);
            Due.tell(x, "p009999;");
            due.is("chains() of as many as YARDS", x.chains(), orders[yards - 1]);
            Due.tell(x, "p009999;");
            due.is("chains() of one more", x.chains(), orders[yards - 1] * (yards + 1));
        }
    }

    /** "CHAINS of all who are not OVER": seven in five YARDS, in the water or not. */
    private static void chainsOfAll() {
        OverByTheHand x = Due.river("y5;" + SEVEN, "i00;i11;i22;i33;i44;");
        due.is("chains() of five out of seven", x.chains(), 2520);
        x.out();
        due.is("chains() of five out of seven", x.chains(), 2520);
    }

    /** "CHAINS of all who are not OVER": until none is left, but who is in the water. */
    private static void chainsLessWhoIsOver() {
        OverByTheHand x = Due.river("y1;c0;" + SEVEN, "i06;");
        for (int p = 0; p < 6; p++) {
            due.is("chains()", x.chains(), 7 - p);
            x.cross(p);
        }
        due.is("chains() of the last one", x.chains(), 1);
        x.out();
        due.is("chains() of all again", x.chains(), 7);
    }

    /** "REACHES DEPTH .. at least, HOLDS .. at least": in mind as in the water. */
    private static void chainsOfWhoCanJustStand() {
        OverByTheHand x = Due.river("y2;d033;d149;p003310;p004310;p003210;p002910;");
        // both hold 3: not 2; YARD 0 wants 3: not 3; YARD 1 wants 4: 1 alone
        due.is("chains()", x.chains(), 1);
        longestIs(x, "of who can just stand", 5, 0, 1);
    }

    /** "no two who hold hands have a GRUDGE": with all GRUDGES only one YARD can be. */
    private static void chainsBetweenGrudges() {
        OverByTheHand x = Due.river("y2;p009999;p009999;p009999;g01;g02;g12;");
        due.is("chains() when all have a GRUDGE", x.chains(), 0);
        x.quarrel(0, 2, 0);
        due.is("chains() when two have none", x.chains(), 2);
        Due.tell(x, "y1;");
        due.is("chains() of one YARD", x.chains(), 3);
    }

    /** longest: "how long (yard -1; -9), who is in a YARD (-9 none STANDS). -1." */
    private static void longestOfNone() {
        longestIs(new OverByTheHand(), "of a new object", -9, -9, -9, -9);
        longestIs(Due.river("y5;" + SEVEN.substring(24)), "of too few", -9, -9, -9, -9, -9, -9);
        longestIs(Due.river("y1;d090;p00899;"), "of who does not reach", -9, -9);
        due.is("longest(-2)", new OverByTheHand().longest(-2), -1);
    }

    /** "the one that LASTS longest": if it LASTS 0, it STANDS all the same. */
    private static void longestThatLasts0() {
        longestIs(Due.river("y1;p00990;p00991;"), "of who LAST 0", 0, 0);
        longestIs(Due.river("y1;p00990;p00992;"), "of who LAST 0 and 1", 1, 1);
        longestIs(Due.river("y2;p009999;p00990;"), "when one LASTS 0", 0, 0, 1);
    }

    /** "of several the first by who is in YARD 0, 1, ..". */
    private static void longestOfSeveral() {
        longestIs(Due.river("y5;c0;" + SEVEN), "of all alike", 99, 0, 1, 2, 3, 4);
        OverByTheHand x = Due.river("y3;c0;p009907;p009908;p009909;p009910;");
        longestIs(x, "without the coldest", 8, 1, 2, 3);
        x.quarrel(1, 2, 1);
        longestIs(x, "when 1 and 2 have a GRUDGE", 8, 1, 3, 2);
        x.quarrel(1, 3, 1);
        longestIs(x, "when 1 has one with 3, too", 7, 0, 2, 3);
        x.quarrel(0, 2, 1);
        longestIs(x, "when 0 has one with 2", 7, 0, 3, 2);
        x.quarrel(0, 3, 1);
        longestIs(x, "when 0 and 1 can go with none of the others", -9, -9, -9, -9);
    }

    /** longest: "who is in a YARD": each of one to five. */
    private static void longestOfEachYard() {
        // YARD k can only be reached by 4 less k and higher ones, each is wanted
        OverByTheHand x = Due.river("y5;c0;d092;d182;d272;d362;d452;p005999;p006999;p007999;", "p008998;p009997;");
        longestIs(x, "of just one order", 97, 4, 3, 2, 1, 0);
        due.is("chains()", x.chains(), 1);
    }

    /** "CHAINS of all who are not OVER". */
    private static void longestLessWhoIsOver() {
        OverByTheHand x = Due.river("y1;c0;p009950;p009999;p009940;i00;");
        longestIs(x, "of all", 99, 1);
        x.cross(1);
        longestIs(x, "less who is OVER", 49, 0);
        x.cross(2);
        longestIs(x, "of who is in the water", 48, 0);
    }

    /** "the one that LASTS longest": as it is now, not as it was asked before. */
    private static void longestKeepsNothingOfBefore() {
        OverByTheHand x = Due.river("y1;c0;p009950;p009940;");
        longestIs(x, "at first", 50, 0);
        x.cold(9);
        longestIs(x, "in the cold", 5, 0);
        Due.tell(x, "y2;");
        x.quarrel(0, 1, 1);
        longestIs(x, "when none STANDS", -9, -9, -9);
        x.quarrel(0, 1, 0);
        longestIs(x, "when one STANDS again", 4, 0, 1);
    }

    /** "MAKE UP: the fewest GRUDGES that must be made up so that some CHAIN STANDS": 0, if one does. */
    private static void makeUpNone() {
        OverByTheHand x = Due.river("y3;p009999;p009999;p009999;g01;");
        due.is("makeUp() when an order is left", x.makeUp(), 0);
        Due.tell(x, "g02;");
        due.is("makeUp() when none is left", x.makeUp(), 1);
        Due.tell(x, "p009999;");
        due.is("makeUp() when a fourth is between", x.makeUp(), 0);
        OverByTheHand one = Due.river("y1;p00990;");
        due.is("makeUp() of one YARD, LASTS 0", one.makeUp(), 0);
    }

    /** "the fewest GRUDGES": one for each two YARDS at most. */
    private static void makeUpTheMost() {
        OverByTheHand x = Due.river("y5;" + SEVEN);
        for (int a = 0; a < 7; a++) {
            for (int b = 0; b < a; b++) {
                x.quarrel(a, b, 1);
            }
        }
        for (int yards = 5; yards >= 1; yards--) {
            Due.tell(x, "y" + yards + ";");
            due.is("makeUp() of " + yards + " YARDS when all have a GRUDGE", x.makeUp(), yards - 1);
        }
        x.quarrel(5, 6, 0);
        Due.tell(x, "y5;");
        due.is("makeUp() when two have none", x.makeUp(), 3);
    }

    /** makeUp: "-9 none would": too few, too deep, too much LOAD. */
    private static void makeUpWhereNoneWould() {
        due.is("makeUp() of nobody", new OverByTheHand().makeUp(), -9);
        OverByTheHand x = Due.river("y2;d092;p009299;p009299;g01;");
        due.is("makeUp() of who just can", x.makeUp(), 1);
        Due.tell(x, "y3;");
        due.is("makeUp() of too few", x.makeUp(), -9);
        Due.tell(x, "y2;d003;d103;");
        due.is("makeUp() of too much LOAD", x.makeUp(), -9);
        OverByTheHand deep = Due.river("y2;d092;d192;p009299;p008299;g01;");
        due.is("makeUp() of too deep", deep.makeUp(), -9);
    }

    /** "CHAINS of all who are not OVER". */
    private static void makeUpLessWhoIsOver() {
        OverByTheHand x = Due.river("y1;c0;p009999;p009999;p009999;g01;i00;");
        x.cross(2);
        Due.tell(x, "y2;");
        due.is("makeUp() less who is OVER", x.makeUp(), 1);
        x.out();
        due.is("makeUp() of all", x.makeUp(), 0);
    }

    /** "WORTH ..: how much longer the longest LASTS then (where none STANDS that is 0)". */
    private static void worthWhereNoneStands() {
        OverByTheHand x = Due.river("y2;c0;p009910;p009930;g01;");
        due.is("worth(0, 1), none STANDS now", x.worth(0, 1), 10);
        due.is("worth(1, 0)", x.worth(1, 0), 10);
        Due.tell(x, "y3;");
        due.is("worth(0, 1), none STANDS then", x.worth(0, 1), 0);
        Due.tell(x, "p009920;g02;g12;");
        due.is("worth(0, 1), another GRUDGE is left", x.worth(0, 1), 0);
        Due.tell(x, "g12;");
        due.is("worth(0, 1), none STANDS now", x.worth(0, 1), 10);
    }

    /** "how much longer": not at all. */
    private static void worthNothing() {
        OverByTheHand x = Due.river("y2;c0;p009910;p009930;p009930;g01;");
        due.is("worth(0, 1), the longest is another", x.worth(0, 1), 0);
        Due.tell(x, "g12;");
        due.is("worth(0, 1), 0 is the coldest", x.worth(0, 1), 0);
        due.is("worth(1, 2)", x.worth(1, 2), 20);
    }

    /** "CHAINS of all who are not OVER": a GRUDGE with who is OVER is worth nothing. */
    private static void worthOfWhoIsOver() {
        OverByTheHand x = Due.river("y1;c0;p009999;p009999;p009950;g01;g02;g12;i00;");
        x.cross(1);
        Due.tell(x, "y2;");
        due.is("worth(0, 1), 1 is OVER", x.worth(0, 1), 0);
        due.is("worth(0, 2)", x.worth(0, 2), 50);
        x.out();
        due.is("worth(0, 1)", x.worth(0, 1), 98);
    }

    /** "(where none STANDS that is 0)": one that STANDS and LASTS 0 is not longer. */
    private static void worthLasting0() {
        OverByTheHand x = Due.river("y2;c1;p00991;p009999;g01;");
        due.is("worth(0, 1), it would LAST 0", x.worth(0, 1), 0);
        x.cold(0);
        due.is("worth(0, 1), it would LAST 1", x.worth(0, 1), 1);
    }

    /** "==== II. In mind": the GRUDGE stays. */
    private static void worthIsOnlyThoughtOf() {
        OverByTheHand x = Due.river("y2;c0;p009910;p009930;g01;");
        String before = Due.lookAtAll(x);
        OverByTheHand y = Due.river("y2;c0;p009910;p009930;g01;");
        y.worth(0, 1);
        due.same("all behind worth()", Due.lookAtAll(y), before);
    }

    /** change: "CHANGE; -9.": nobody in the water, nobody on the near bank. */
    private static void changeOfNobody() {
        due.is("change() of a new object", new OverByTheHand().change(), -9);
        due.is("change() of an empty water", Due.river("y1;p009999;").change(), -9);
        due.is("change() when nobody is near", Due.river("y2;p009999;p009998;i00;i11;").change(), -9);
    }

    /** "longer than now": as long is not enough. */
    private static void changeIsLongerThanNow() {
        OverByTheHand x = Due.river("y1;c1;p009910;p009911;p009909;i00;");
        due.is("lasts()", x.lasts(), 5);
        due.is("change() when none LASTS longer", x.change(), -9);
        Due.tell(x, "p009912;");
        due.is("change() when one LASTS 6", x.change(), 3);
    }

    /** "longer than now (0, if it does not STAND)". */
    private static void changeOfWhatDoesNotStand() {
        OverByTheHand x = Due.river("y2;c0;p009999;p009999;p009901;g01;i00;i11;");
        due.is("change() that would LAST 1", x.change(), 2);
        x.quarrel(1, 2, 1);
        due.is("change() of the other", x.change(), 12);
        x.quarrel(0, 2, 1);
        due.is("change() by nobody", x.change(), -9);
    }

    /** "longer than now (0, if it does not STAND)": one that LASTS 0 is not longer. */
    private static void changeThatLasts0() {
        OverByTheHand x = Due.river("y2;c1;p009999;p009999;p009901;g01;i00;i11;");
        due.is("change() that would LAST 0", x.change(), -9);
        OverByTheHand y = Due.river("y1;c1;p009901;p009900;p009902;i00;");
        due.is("change() of what LASTS 0", y.change(), 2);
    }

    /** "10 times the YARD and who comes, of several the least". */
    private static void changeTheLeastOfSeveral() {
        OverByTheHand x = Due.river("y2;c0;p009950;p009950;p009950;p009950;g01;i00;i11;");
        due.is("change(), all alike", x.change(), 2);
        x.quarrel(1, 2, 1);
        due.is("change(), the next in YARD 0", x.change(), 3);
        x.quarrel(1, 3, 1);
        due.is("change(), the first in YARD 1", x.change(), 12);
        x.quarrel(0, 2, 1);
        due.is("change(), the last in YARD 1", x.change(), 13);
        OverByTheHand y = Due.river("y1;c0;p009950;p009940;i01;");
        due.is("change() by 0 in YARD 0", y.change(), 0);
        OverByTheHand z = Due.river("y5;c0;" + "p009950;".repeat(4) + "p009940;p009940;p009950;", "i00;i11;i22;i33;i44;");
        due.is("change() by 6 in YARD 4", z.change(), 46);
    }

    /** "that by which it STANDS and LASTS longest". */
    private static void changeTheLongestOfAll() {
        OverByTheHand x = Due.river("y2;c0;p009910;p009940;p009920;p009930;p009930;i00;i11;");
        due.is("change(), the longest, not the first", x.change(), 3);
        x.put(0, 1);
        x.put(1, 0);
        due.is("change() in YARD 1", x.change(), 13);
        Due.tell(x, "d199;p008999;");
        due.is("change() by who does not reach", x.change(), 13);
    }

    /** "to put one from the near bank": not who is OVER, not who is in the water. */
    private static void changeFromTheNearBankAlone() {
        OverByTheHand x = Due.river("y2;c0;p009910;p009920;p009999;p009915;i00;i11;");
        x.cross(2);
        due.is("change() without who is OVER", x.change(), 3);
        x.cross(3);
        due.is("change() by nobody", x.change(), -9);
        x.out();
        x.put(0, 0);
        x.put(1, 1);
        due.is("change() by all again", x.change(), 2);
    }

    /** "in the place of one in the CHAIN": of an empty YARD nobody's place can be taken. */
    private static void changeOfAnEmptyYard() {
        OverByTheHand x = Due.river("y2;c0;p009910;p009920;p009930;i00;");
        due.is("change() when YARD 1 is empty", x.change(), -9);
        x.put(1, 0);
        due.is("change() when YARD 0 is empty", x.change(), -9);
        x.put(0, 1);
        due.is("change() of a CHAIN", x.change(), 12);
    }

    /** "FLOOD: by how much DEPTH of all YARDS can be more (0 .. 9 ..)": 0. */
    private static void floodBy0() {
        OverByTheHand x = Due.river("y2;d052;d132;p005999;p009999;i00;i11;");
        due.is("flood() when one reaches just DEPTH", x.flood(), 0);
        Due.tell(x, "d042;");
        due.is("flood() when one reaches one more", x.flood(), 1);
        Due.tell(x, "d062;");
        due.is("flood() when one does not reach", x.flood(), -9);
    }

    /** "(0 .. 9; HEIGHT as it is)": 9 at most. */
    private static void floodBy9AtMost() {
        OverByTheHand x = Due.river("y1;d000;p108999;p107999;p109999;p300999;p009999;p008999;");
        int[] most = {9, 9, 9, 9, 9, 8};
        for (int p = 0; p < most.length; p++) {
            x.put(0, p);
            due.is("flood() of " + p + " in DEPTH 0", x.flood(), most[p]);
        }
        Due.tell(x, "d090;");
        x.put(0, 3);
        due.is("flood() of a SWIMMER in DEPTH 9", x.flood(), 9);
        x.put(0, 2);
        due.is("flood() of a TALL in DEPTH 9", x.flood(), 2);
    }

    /** "of all YARDS": the least that is left. */
    private static void floodOfTheShallowest() {
        OverByTheHand x = Due.river("y3;d012;d122;d232;p009999;p009999;p009999;i00;i11;i22;");
        due.is("flood() by the last YARD", x.flood(), 6);
        Due.tell(x, "d052;");
        due.is("flood() by the first YARD", x.flood(), 4);
        Due.tell(x, "d182;");
        due.is("flood() by the YARD between", x.flood(), 1);
    }

    /** flood: "-9 it does not now": empty, LOAD, a GRUDGE. */
    private static void floodOfNone() {
        due.is("flood() of a new object", new OverByTheHand().flood(), -9);
        OverByTheHand x = Due.river("y2;p009999;p009999;p009199;i00;");
        due.is("flood() with an empty YARD", x.flood(), -9);
        x.put(1, 2);
        due.is("flood() of who does not hold", x.flood(), -9);
        x.put(1, 1);
        due.is("flood() of two", x.flood(), 7);
        x.quarrel(0, 1, 1);
        due.is("flood() with a GRUDGE", x.flood(), -9);
    }

    /** "OVERS: how many of those on the near bank could CROSS": 0 without a CHAIN, or with nobody there. */
    private static void oversOfNobody() {
        due.is("overs() of a new object", new OverByTheHand().overs(), 0);
        due.is("overs() without a CHAIN", Due.river("y1;p009999;").overs(), 0);
        due.is("overs() when nobody is near", Due.river("y1;p009999;i00;").overs(), 0);
        OverByTheHand x = Due.river("y2;p009999;p009999;p009999;g01;i00;i11;");
        due.is("overs() by what does not STAND", x.overs(), 0);
        x.quarrel(0, 1, 0);
        due.is("overs() by what STANDS", x.overs(), 1);
    }

    /** "one behind the other by this CHAIN": LASTS 0, 1, as many as are near, one more. */
    private static void oversAsLongAsItLasts() {
        int[] lasts = {0, 1, 2, 3, 3};
        for (int warmth = 0; warmth < lasts.length; warmth++) {
            OverByTheHand x = Due.river("y1;c0;p0099" + warmth + ";p00990;p00990;p00990;i00;");
            due.is("overs() of WARMTH " + warmth, x.overs(), lasts[warmth]);
        }
        OverByTheHand small = Due.river("y1;c9;p209959;p00990;p00990;p00990;i00;");
        due.is("overs() of a SMALL, cut", small.overs(), 2);
    }

    /** "of those on the near bank": less who is OVER, six at most. */
    private static void oversOfTheNearBankAlone() {
        OverByTheHand x = Due.river("y1;c0;" + SEVEN, "i00;");
        for (int p = 1; p < 7; p++) {
            due.is("overs()", x.overs(), 7 - p);
            x.cross(p);
        }
        due.is("overs() when all are OVER", x.overs(), 0);
    }

    /** "==== II. In mind": nothing of it changes what there is. */
    private static void nothingIsChangedInMind() {
        OverByTheHand x = Due.river("y2;c0;p009910;p009920;p009930;p009940;g23;i00;i11;");
        OverByTheHand y = Due.river("y2;c0;p009910;p009920;p009930;p009940;g23;i00;i11;");
        x.chains();
        x.longest(-1);
        x.longest(1);
        x.makeUp();
        x.worth(2, 3);
        x.change();
        x.flood();
        x.overs();
        x.wet(3, -1);
        x.seeds(60, 5);
        x.slips(0);
        x.lasts();
        due.same("all behind them", Due.lookAtAll(x), Due.lookAtAll(y));
    }
}
