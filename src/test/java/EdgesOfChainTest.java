/** The boundary cases of a CHAIN in the water: HAND, LOAD, STANDS, SLIPS, LASTS, CROSS; promises 9 to 14. */
public final class EdgesOfChainTest {
    private static final Due due = new Due("EdgesOfChainTest");
    /** Seven who reach and hold all that a YARD of DEPTH and PULL 2 can ask. */
    private static final String SEVEN = "p009999;".repeat(7);

    public static void main(String[] args) {
        putInAnEmptyYard();
        putWhereSomebodyIs();
        putWhoIsThereAlready();
        putFromYardToYard();
        putWhoWasOver();
        outOfNobody();
        outOfAll();
        outLeavesTheRest();
        firstAndLastHand();
        loadIsTheLess();
        leastAndGreatestLoad();
        reachesAtLeast();
        reachesTheGreatestDepth();
        holdsAtLeastTheHandBehind();
        holdsAtLeastTheHandAhead();
        oneYardHasNoLoad();
        holdsTheGreatestLoad();
        grudgeOfTwoWhoHoldHands();
        grudgeOfTwoWhoDoNot();
        grudgeAtTheBanks();
        emptyYards();
        theFirstYardIsTold();
        whyInThisOrder();
        standsTellsNothing();
        lastsIsCut();
        lastsTheLeast();
        lastsTheMost();
        lastsOfNone();
        crossByWhatLasts1();
        crossByWhatLasts0();
        crossLosesWarmthOfAllInTheWater();
        crossOwesAllInTheWater();
        hoursAt99();
        crossFromTheNearBankAlone();
        crossCountsWhoIsOver();
        due.end();
    }

    private static void slipsAre(OverByTheHand x, String when, int yard, int why) {
        due.is("slips(0) " + when, x.slips(0), yard);
        due.is("slips(1) " + when, x.slips(1), why);
        due.is("whether it LASTS " + when, x.lasts() == -9 ? 0 : 1, yard == -9 ? 1 : 0);
    }

    /** put: "who was; -9 nobody." */
    private static void putInAnEmptyYard() {
        OverByTheHand x = Due.river("y5;" + SEVEN);
        due.is("put(0, 0)", x.put(0, 0), -9);
        due.is("put(4, 6)", x.put(4, 6), -9);
        due.is("put(5, 1)", x.put(5, 1), -1);
        due.is("put(-1, 1)", x.put(-1, 1), -1);
        due.is("put(1, 7)", x.put(1, 7), -1);
        due.is("put(1, -1)", x.put(1, -1), -1);
        due.is("in the water", x.count(4), 2);
    }

    /** put: "(who was there is on the near bank): who was". */
    private static void putWhereSomebodyIs() {
        OverByTheHand x = Due.river(SEVEN);
        x.put(0, 0);
        due.is("put(0, 6)", x.put(0, 6), 0);
        due.is("who was there", x.person(0, 8), -9);
        due.is("who is there", x.yard(0, 2), 6);
        due.is("in the water", x.count(4), 1);
    }

    /** put: "Somebody is in a YARD .. who was": he himself. */
    private static void putWhoIsThereAlready() {
        OverByTheHand x = Due.river(SEVEN);
        x.put(2, 0);
        due.is("put(2, 0) again", x.put(2, 0), 0);
        due.is("where he is", x.person(0, 8), 2);
        due.is("in the water", x.count(4), 1);
    }

    /** "A CHAIN: in each YARD just one": and nobody in two YARDS. */
    private static void putFromYardToYard() {
        OverByTheHand x = Due.river(SEVEN);
        x.put(0, 0);
        x.put(2, 1);
        due.is("put(2, 0)", x.put(2, 0), 1);
        due.is("the YARD where he was", x.yard(0, 2), -9);
        due.is("where he is", x.person(0, 8), 2);
        due.is("who was there", x.person(1, 8), -9);
        due.is("in the water", x.count(4), 1);
    }

    /** put: "-3 he is OVER": until all are out. */
    private static void putWhoWasOver() {
        OverByTheHand x = Due.river("y1;" + SEVEN);
        x.put(0, 1);
        x.cross(6);
        due.is("put(0, 6)", x.put(0, 6), -3);
        due.is("who is there yet", x.yard(0, 2), 1);
        x.out();
        due.is("put(0, 6)", x.put(0, 6), -9);
    }

    /** out: "how many they were": none. */
    private static void outOfNobody() {
        due.is("out() of a new object", new OverByTheHand().out(), 0);
        OverByTheHand x = Due.river(SEVEN);
        due.is("out() when all are near", x.out(), 0);
    }

    /** out: "All in the water, and all who are OVER, are on the near bank again": all seven. */
    private static void outOfAll() {
        OverByTheHand x = Due.river("y5;c0;" + SEVEN, "i02;i13;i24;i35;i46;");
        x.cross(0);
        x.cross(1);
        due.is("out()", x.out(), 7);
        for (int p = 0; p < 7; p++) {
            due.is("where " + p + " is", x.person(p, 8), -9);
        }
        for (int k = 0; k < 5; k++) {
            due.is("who is in YARD " + k, x.yard(k, 2), -9);
        }
        due.is("out() again", x.out(), 0);
    }

    /** out: of the near bank alone is told: MINUTE, WARMTH, HOURS, DEPTH stay. */
    private static void outLeavesTheRest() {
        OverByTheHand x = Due.river("y1;c0;d077;" + SEVEN, "i00;");
        x.cross(1);
        x.out();
        due.is("MINUTE", x.count(3), 1);
        due.is("WARMTH", x.person(0, 4), 98);
        due.is("HOURS", x.owes(1, 0), 1);
        due.is("DEPTH", x.yard(0, 0), 7);
    }

    /** "HAND k (0 .. YARDS) is between what is in YARD k less 1 and in YARD k (the banks at the ends)"; load: "-1." */
    private static void firstAndLastHand() {
        for (int n = 1; n <= 5; n++) {
            OverByTheHand x = Due.river("y" + n + ";");
            due.is("load(-1)", x.load(-1), -1);
            due.is("load(0)", x.load(0), 0);
            due.is("load(" + n + ")", x.load(n), 0);
            due.is("load(" + (n + 1) + ")", x.load(n + 1), -1);
        }
    }

    /** "LOAD of a HAND: the less of all PULL on its one side and of all on its other": one side, the other, both alike. */
    private static void loadIsTheLess() {
        OverByTheHand x = Due.river("y3;d021;d124;d225;");
        due.is("1 and 9", x.load(1), 1);
        due.is("5 and 5", x.load(2), 5);
        Due.tell(x, "d224;");
        due.is("5 and 4", x.load(2), 4);
        Due.tell(x, "d226;");
        due.is("5 and 6", x.load(2), 5);
    }

    /** "PULL (0 .. 9)": all 0, all 9. */
    private static void leastAndGreatestLoad() {
        OverByTheHand x = Due.river("y5;d020;d120;d220;d320;d420;");
        OverByTheHand y = Due.river("y5;d029;d129;d229;d329;d429;");
        int[] greatest = {0, 9, 18, 18, 9, 0};
        for (int hand = 0; hand <= 5; hand++) {
            due.is("load(" + hand + ") of no PULL", x.load(hand), 0);
            due.is("load(" + hand + ") of the greatest", y.load(hand), greatest[hand]);
        }
    }

    /** "STANDS, if each REACHES DEPTH of his YARD at least": as much, one less. */
    private static void reachesAtLeast() {
        OverByTheHand x = Due.river("y3;d032;d152;d242;p003910;p005910;p004910;i00;i11;i22;");
        slipsAre(x, "when each reaches just DEPTH", -9, -9);
        Due.tell(x, "d042;");
        slipsAre(x, "when the first lacks one", 0, 1);
        Due.tell(x, "d032;d162;");
        slipsAre(x, "when the second lacks one", 1, 1);
        Due.tell(x, "d152;d252;");
        slipsAre(x, "when the last lacks one", 2, 1);
        OverByTheHand none = Due.river("y1;d000;p00001;i00;");
        slipsAre(none, "of HEIGHT 0 in DEPTH 0", -9, -9);
    }

    /** "DEPTH (0 .. 9)" and REACHES: by KIND in DEPTH 9. */
    private static void reachesTheGreatestDepth() {
        int[] leastHeight = {9, 7, 10, 0, 7, 7};
        for (int kind = 0; kind < 6; kind++) {
            for (int height = 0; height <= 9; height++) {
                OverByTheHand x = Due.river("y1;d092;p" + kind + "0" + height + "09;i00;");
                due.is("slips(0) of KIND " + kind + ", HEIGHT " + height, x.slips(0), height >= leastHeight[kind] ? -9 : 0);
            }
        }
    }

    /** "HOLDS the greater LOAD of his two HANDS at least": the HAND behind him is the greater one. */
    private static void holdsAtLeastTheHandBehind() {
        // PULL 1 1 9 9, LOADS 0 1 2 9 0: the first holds 1, the second 2, the third 9
        OverByTheHand x = Due.river("y4;d001;d101;d209;d309;p009110;p009210;p009910;p009910;i00;i11;i22;i33;");
        slipsAre(x, "when each holds just the greater LOAD", -9, -9);
        Due.tell(x, "p009010;i04;");
        slipsAre(x, "when the first lacks one", 0, 2);
        Due.tell(x, "i00;p009110;i15;");
        slipsAre(x, "when the second lacks one", 1, 2);
        Due.tell(x, "i11;p009810;i26;");
        slipsAre(x, "when the third lacks one", 2, 2);
    }

    /** "HOLDS the greater LOAD of his two HANDS at least": the HAND ahead of him is the greater one. */
    private static void holdsAtLeastTheHandAhead() {
        // PULL 9 9 1 1, LOADS 0 9 2 1 0: they hold 9, 9, 2, 1
        OverByTheHand x = Due.river("y4;d009;d109;d201;d301;p009910;p009910;p009210;p009110;i00;i11;i22;i33;");
        slipsAre(x, "when each holds just the greater LOAD", -9, -9);
        Due.tell(x, "p009810;i14;");
        slipsAre(x, "when the second lacks one", 1, 2);
        Due.tell(x, "i11;p009110;i25;");
        slipsAre(x, "when the third lacks one", 2, 2);
        Due.tell(x, "i22;p009010;i36;");
        slipsAre(x, "when the last lacks one", 3, 2);
    }

    /** "(the banks at the ends)": with one YARD both HANDS are at a bank. */
    private static void oneYardHasNoLoad() {
        OverByTheHand x = Due.river("y1;d009;p00009;i00;");
        slipsAre(x, "of STRENGTH 0 in PULL 9", -9, -9);
    }

    /** LOAD is 18 at most, HOLDS, too. */
    private static void holdsTheGreatestLoad() {
        OverByTheHand x = Due.river("y5;d009;d109;d209;d309;d409;", "p499999;".repeat(5) + "p489999;", "i00;i11;i22;i33;i44;");
        slipsAre(x, "of five who hold 18", -9, -9);
        x.put(2, 5);
        slipsAre(x, "when the third holds 17", 2, 2);
        x.put(2, 2);
        x.put(0, 5);
        slipsAre(x, "when the first holds 17 of 9", -9, -9);
    }

    /** "no two who hold hands have a GRUDGE"; SLIPS "3 a GRUDGE with who is in the YARD ahead of it". */
    private static void grudgeOfTwoWhoHoldHands() {
        OverByTheHand x = Due.river("y5;" + SEVEN, "i00;i11;i22;i33;i44;");
        slipsAre(x, "without a GRUDGE", -9, -9);
        for (int k = 0; k < 4; k++) {
            x.quarrel(k, k + 1, 1);
            slipsAre(x, "with a GRUDGE of YARDS " + k + " and " + (k + 1), k + 1, 3);
            x.quarrel(k + 1, k, 0);
        }
        slipsAre(x, "when all are made up", -9, -9);
    }

    /** "no two who hold hands have a GRUDGE": others may have one. */
    private static void grudgeOfTwoWhoDoNot() {
        OverByTheHand x = Due.river("y5;" + SEVEN, "i00;i11;i22;i33;i44;");
        for (int a = 0; a < 7; a++) {
            for (int b = 0; b < a; b++) {
                x.quarrel(a, b, a - b > 1 || a > 4 ? 1 : 0);
            }
        }
        slipsAre(x, "with a GRUDGE between all who do not hold hands", -9, -9);
    }

    /** "(the banks at the ends)": who is at a bank has no GRUDGE with it; nor with an empty YARD. */
    private static void grudgeAtTheBanks() {
        OverByTheHand x = Due.river("y1;p009999;p009999;g01;i00;");
        slipsAre(x, "of one YARD", -9, -9);
        Due.tell(x, "y2;i10;");
        slipsAre(x, "with an empty YARD ahead", 0, 0);
    }

    /** "0 it is empty": the first YARD, one between, the last, all. */
    private static void emptyYards() {
        OverByTheHand x = Due.river("y5;" + SEVEN);
        slipsAre(x, "when all are empty", 0, 0);
        for (int empty = 0; empty < 5; empty++) {
            x.out();
            for (int k = 0; k < 5; k++) {
                if (k != empty) {
                    x.put(k, k);
                }
            }
            slipsAre(x, "when YARD " + empty + " is empty", empty, 0);
        }
        slipsAre(new OverByTheHand(), "of a new object", 0, 0);
    }

    /** "the first YARD that is not so, and why": of several, each for another reason. */
    private static void theFirstYardIsTold() {
        // YARD 1 is too deep, YARD 2 has too much LOAD, YARD 3 a GRUDGE, YARD 4 is empty
        OverByTheHand x = Due.river("y5;d192;p009999;p008999;p009199;p009999;g23;p009999;i00;i11;i22;i33;");
        slipsAre(x, "of DEPTH first", 1, 1);
        Due.tell(x, "d182;");
        slipsAre(x, "of LOAD then", 2, 2);
        Due.tell(x, "d020;d180;d220;d320;d420;");
        slipsAre(x, "of a GRUDGE then", 3, 3);
        x.quarrel(2, 3, 0);
        slipsAre(x, "of an empty YARD then", 4, 0);
        x.put(4, 4);
        slipsAre(x, "of none", -9, -9);
    }

    /** "in this order: 0 it is empty, 1 DEPTH, 2 LOAD, 3 a GRUDGE": all of one YARD. */
    private static void whyInThisOrder() {
        OverByTheHand x = Due.river("y2;d002;d112;p009999;p00009;g01;i00;");
        slipsAre(x, "when it is empty", 1, 0);
        x.put(1, 1);
        slipsAre(x, "of DEPTH, LOAD and a GRUDGE", 1, 1);
        Due.tell(x, "d102;");
        slipsAre(x, "of LOAD and a GRUDGE", 1, 2);
        Due.tell(x, "d100;");
        slipsAre(x, "of a GRUDGE", 1, 3);
        Due.tell(x, "g01;");
        slipsAre(x, "of nothing", -9, -9);
    }

    /** slips: "the YARD (what 0; -9 it STANDS), why (1; -9). -2." */
    private static void standsTellsNothing() {
        OverByTheHand x = Due.river("y1;p009999;i00;");
        due.is("slips(0)", x.slips(0), -9);
        due.is("slips(1)", x.slips(1), -9);
        due.is("slips(2)", x.slips(2), -2);
        due.is("slips(-1)", x.slips(-1), -2);
    }

    private static void lasts(String person, int cold, int want) {
        OverByTheHand x = Due.river("y1;c" + cold + ";" + person + "i00;");
        due.is("lasts() of " + person + " in COLD " + cold, x.lasts(), want);
    }

    /** "LASTS ..: the least of WARMTH by COOLS, cut". */
    private static void lastsIsCut() {
        lasts("p00990;", 1, 0);
        lasts("p00991;", 1, 0);
        lasts("p00992;", 1, 1);
        lasts("p00993;", 1, 1);
        lasts("p00994;", 1, 2);
        lasts("p209919;", 9, 0);
        lasts("p209920;", 9, 1);
        lasts("p209999;", 9, 4);
        lasts("p00999;", 9, 0);
        lasts("p009910;", 9, 1);
    }

    /** "the least of": wherever he stands. */
    private static void lastsTheLeast() {
        OverByTheHand x = Due.river("y3;c0;p009907;p009908;p009909;");
        int[][] orders = {{0, 1, 2}, {1, 0, 2}, {1, 2, 0}};
        for (int[] order : orders) {
            x.out();
            for (int k = 0; k < 3; k++) {
                x.put(k, order[k]);
            }
            due.is("lasts()", x.lasts(), 7);
        }
    }

    /** "WARMTH (0 .. 99)", "COOLS .. 1 at least": 99 at most. */
    private static void lastsTheMost() {
        lasts("p009999;", 0, 99);
        lasts("p409999;", 0, 99);
        lasts("p409999;", 1, 99);
        lasts("p409999;", 2, 49);
        lasts("p509999;", 9, 99);
        lasts("p509900;", 9, 0);
    }

    /** lasts: "-9 it does not STAND". */
    private static void lastsOfNone() {
        due.is("lasts() of a new object", new OverByTheHand().lasts(), -9);
        OverByTheHand x = Due.river("y2;p009999;p009999;i10;");
        due.is("lasts() with an empty YARD", x.lasts(), -9);
        x.put(0, 1);
        due.is("lasts() of both", x.lasts(), 49);
        x.quarrel(0, 1, 1);
        due.is("lasts() with a GRUDGE", x.lasts(), -9);
    }

    /** "To CROSS: .. if it STANDS and LASTS 1 at least": just 1; WARMTH 0 is left then. */
    private static void crossByWhatLasts1() {
        OverByTheHand x = Due.river("y1;c1;p009902;p00990;p00990;i00;");
        due.is("lasts()", x.lasts(), 1);
        due.is("cross(1)", x.cross(1), 1);
        due.is("WARMTH", x.person(0, 4), 0);
        due.is("lasts()", x.lasts(), 0);
        due.is("cross(2)", x.cross(2), -3);
        due.is("WARMTH", x.person(0, 4), 0);
        due.is("MINUTE", x.count(3), 1);
    }

    /** "LASTS 1 at least": one who LASTS 0 is enough that nobody can. */
    private static void crossByWhatLasts0() {
        OverByTheHand x = Due.river("y2;c1;p009999;p009901;p009999;i00;i11;");
        due.is("lasts()", x.lasts(), 0);
        due.is("cross(2)", x.cross(2), -3);
        due.is("WARMTH", x.person(0, 4), 99);
        due.is("HOURS", x.count(7), 0);
        x.cold(0);
        due.is("lasts()", x.lasts(), 1);
        due.is("cross(2)", x.cross(2), 1);
    }

    /** "all in the water lose WARMTH, as much as each COOLS": they alone. */
    private static void crossLosesWarmthOfAllInTheWater() {
        OverByTheHand x = Due.river("y5;c9;d421;p009999;p209999;p309999;p409999;p509999;p009999;p009999;", "i00;i11;i22;i33;i44;");
        due.is("cross(5)", x.cross(5), 1);
        int[] warmth = {89, 79, 89, 90, 98, 99, 99};
        for (int p = 0; p < 7; p++) {
            due.is("WARMTH of " + p, x.person(p, 4), warmth[p]);
        }
        due.is("MINUTE is one more", x.count(3), 1);
    }

    /** "he owes each of them an HOUR more": them alone, and they him nothing. */
    private static void crossOwesAllInTheWater() {
        OverByTheHand x = Due.river("y5;c0;" + SEVEN, "i02;i13;i24;i35;i46;");
        x.cross(0);
        for (int p = 1; p < 7; p++) {
            due.is("owes(0, " + p + ")", x.owes(0, p), p < 2 ? 0 : 1);
            due.is("owes(" + p + ", 0)", x.owes(p, 0), 0);
        }
        due.is("all HOURS", x.count(7), 5);
    }

    /** "an HOUR more (99 at most)". */
    private static void hoursAt99() {
        OverByTheHand x = Due.river("y1;c9;p509999;p009999;");
        for (int n = 1; n <= 99; n++) {
            x.put(0, 0);
            x.cross(1);
            due.is("owes(1, 0)", x.owes(1, 0), n);
            x.out();
        }
        x.put(0, 0);
        due.is("cross(1) the 100th time", x.cross(1), -3);
        due.is("owes(1, 0)", x.owes(1, 0), 99);
        due.is("WARMTH", x.person(0, 4), 0);
        due.is("MINUTE", x.count(3), 99);
    }

    /** "somebody on the near bank goes OVER"; cross: "-1; -3 he is not on the near bank, it can't be." */
    private static void crossFromTheNearBankAlone() {
        OverByTheHand x = Due.river("y1;c0;p009999;p009999;i00;");
        due.is("cross(0), who is in the water", x.cross(0), -3);
        due.is("cross(2)", x.cross(2), -1);
        due.is("cross(-1)", x.cross(-1), -1);
        due.is("cross(1)", x.cross(1), 1);
        due.is("cross(1), who is OVER", x.cross(1), -3);
        due.is("MINUTE", x.count(3), 1);
        due.is("cross(0) of a new object", new OverByTheHand().cross(0), -1);
    }

    /** cross: "how many are OVER then": one to six. */
    private static void crossCountsWhoIsOver() {
        OverByTheHand x = Due.river("y1;c0;" + SEVEN, "i03;");
        int n = 0;
        for (int p = 0; p < 7; p++) {
            if (p != 3) {
                n++;
                due.is("cross(" + p + ")", x.cross(p), n);
                due.is("OVER", x.count(5), n);
            }
        }
        due.is("in the water", x.count(4), 1);
    }
}
