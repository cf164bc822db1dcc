/** The boundary cases of a RIVER and its PEOPLE: "What it is", the first part of "Terms", promises 1 and 4 to 8. */
public final class EdgesOfRiverTest {
    private static final Due due = new Due("EdgesOfRiverTest");
    private static final String SEVEN = "p00001;p10112;p20223;p30334;p40445;p50556;p00667;";

    public static void main(String[] args) {
        newObject();
        yardsAtFirst();
        fewestAndMostYards();
        depthAndPull();
        coldAtFirst();
        leastAndGreatestCold();
        sevenPeople();
        kinds();
        figures();
        warmth();
        noGrudgesAtFirst();
        nearBankAtFirst();
        noHoursAtFirst();
        reachesOfOneAndTall();
        reachesOfSmallIsCut();
        reachesOfSwimmer();
        reachesOfStoutAndHardy();
        holdsOfOneAndTall();
        holdsOfSmallIsNotBelow0();
        holdsOfSwimmerIsCut();
        holdsOfStoutAndHardy();
        coolsOfOneTallSwimmer();
        coolsOfSmall();
        coolsOfStoutIsNotBelow1();
        coolsOfHardy();
        whoIsInAYard();
        whereOneIs();
        grudgeIsOfBoth();
        quarrelAnswersWhatItWas();
        allGrudges();
        due.end();
    }

    /** One of the PEOPLE alone in a RIVER. */
    private static OverByTheHand one(int kind, int figure, int height, int strength) {
        return Due.river("p" + kind + figure + height + strength + "50;");
    }

    private static void reaches(int kind, int height, int want) {
        due.is("REACHES of KIND " + kind + ", HEIGHT " + height, one(kind, 7, height, 3).person(0, 5), want);
    }

    private static void holds(int kind, int figure, int strength, int want) {
        String call = "HOLDS of KIND " + kind + ", FIGURE " + figure + ", STRENGTH " + strength;
        due.is(call, one(kind, figure, 3, strength).person(0, 6), want);
    }

    private static void cools(int kind, int cold, int want) {
        OverByTheHand x = one(kind, 7, 3, 3);
        x.cold(cold);
        due.is("COOLS of KIND " + kind + " in COLD " + cold, x.person(0, 7), want);
    }

    /** Promise 1: "Three YARDS, nobody." */
    private static void newObject() {
        OverByTheHand x = new OverByTheHand();
        due.is("YARDS", x.count(0), 3);
        due.is("PEOPLE", x.count(1), 0);
        due.is("person(0, 0)", x.person(0, 0), -1);
        for (int what = 3; what <= 9; what++) {
            due.is("count(" + what + ") of a new object", x.count(what), 0);
        }
        OverByTheHand y = new OverByTheHand();
        for (int what = 11; what <= 16; what++) {
            due.is("count(" + what + ") of a new object", y.count(what), 0);
        }
    }

    /** "A RIVER has YARDS 0 .. (1 .. 5; 3 at first), each with DEPTH .., PULL .. (2 each at first)". */
    private static void yardsAtFirst() {
        OverByTheHand x = new OverByTheHand();
        for (int k = 0; k < 3; k++) {
            due.is("DEPTH at first", x.yard(k, 0), 2);
            due.is("PULL at first", x.yard(k, 1), 2);
            due.is("who is in it at first", x.yard(k, 2), -9);
        }
        due.is("yard(3, 0)", x.yard(3, 0), -1);
        due.is("yard(-1, 0)", x.yard(-1, 0), -1);
    }

    /** "YARDS 0 .. (1 .. 5 ..)". */
    private static void fewestAndMostYards() {
        for (int n = 1; n <= 5; n++) {
            OverByTheHand x = Due.river("y" + n + ";");
            due.is("YARDS", x.count(0), n);
            due.is("the last YARD of " + n, x.yard(n - 1, 0), 2);
            due.is("behind the last YARD of " + n, x.yard(n, 0), -1);
        }
        for (int n : new int[] {0, 6, 7, 8, 9}) {
            OverByTheHand x = new OverByTheHand();
            due.is("y" + n + ";", Due.tell(x, "y" + n + ";"), -2000);
            due.is("YARDS as they were", x.count(0), 3);
        }
    }

    /** "each with DEPTH (0 .. 9), PULL (0 .. 9)": of every YARD, the least and the greatest. */
    private static void depthAndPull() {
        OverByTheHand x = Due.river("y5;");
        for (int k = 0; k < 5; k++) {
            Due.tell(x, "d" + k + "09;");
            due.is("DEPTH 0", x.yard(k, 0), 0);
            due.is("PULL 9", x.yard(k, 1), 9);
            Due.tell(x, "d" + k + "90;");
            due.is("DEPTH 9", x.yard(k, 0), 9);
            due.is("PULL 0", x.yard(k, 1), 0);
            due.is("DEPTH of the next", k == 4 ? 2 : x.yard(k + 1, 0), 2);
        }
    }

    /** "COLD (0 .. 9; 1 at first)"; cold: "COLD becomes v: what it was." */
    private static void coldAtFirst() {
        OverByTheHand x = new OverByTheHand();
        due.is("COLD at first", x.count(2), 1);
        due.is("what it was", x.cold(1), 1);
    }

    /** "COLD (0 .. 9 ..)"; cold: "-4; -6 9."; "c" COLD (a digit). */
    private static void leastAndGreatestCold() {
        OverByTheHand x = new OverByTheHand();
        due.is("cold(9)", x.cold(9), 1);
        due.is("cold(10)", x.cold(10), -6);
        due.is("cold(0)", x.cold(0), 9);
        due.is("cold(-1)", x.cold(-1), -4);
        due.is("COLD", x.count(2), 0);
        Due.tell(x, "c9;");
        due.is("COLD by c9;", x.count(2), 9);
        Due.tell(x, "c0;");
        due.is("COLD by c0;", x.count(2), 0);
    }

    /** "PEOPLE 0 .. 6 as they come". */
    private static void sevenPeople() {
        OverByTheHand x = Due.river(SEVEN);
        due.is("PEOPLE", x.count(1), 7);
        for (int p = 0; p < 7; p++) {
            due.is("HEIGHT of who came as " + p, x.person(p, 2), p);
            due.is("WARMTH of who came as " + p, x.person(p, 4), p + 1);
        }
        due.is("person(7, 0)", x.person(7, 0), -1);
        due.is("the eighth", Due.tell(x, "p00000;"), -2000);
        due.is("PEOPLE", x.count(1), 7);
    }

    /** "of KINDS: 0 ONE; 1 TALL ..; 5 HARDY under STOUT". */
    private static void kinds() {
        for (int kind = 0; kind <= 5; kind++) {
            due.is("KIND " + kind, one(kind, 0, 0, 0).person(0, 0), kind);
        }
        for (int kind = 6; kind <= 9; kind++) {
            OverByTheHand x = new OverByTheHand();
            due.is("KIND " + kind, Due.tell(x, "p" + kind + "0000;"), -2000);
            due.is("PEOPLE", x.count(1), 0);
        }
    }

    /** "with a FIGURE (0 .. 9), HEIGHT, STRENGTH (0 .. 9 each)". */
    private static void figures() {
        for (int what = 1; what <= 3; what++) {
            for (int v : new int[] {0, 1, 8, 9}) {
                int[] numbers = {0, 5, 5, 5};
                numbers[what] = v;
                OverByTheHand x = one(numbers[0], numbers[1], numbers[2], numbers[3]);
                for (int other = 0; other <= 3; other++) {
                    due.is("person(0, " + other + ")", x.person(0, other), numbers[other]);
                }
            }
        }
    }

    /** "WARMTH (0 .. 99)", "WARMTH (1 or 2 digits)". */
    private static void warmth() {
        String[] told = {"0", "00", "1", "01", "9", "09", "10", "90", "99"};
        int[] want = {0, 0, 1, 1, 9, 9, 10, 90, 99};
        for (int i = 0; i < told.length; i++) {
            OverByTheHand x = Due.river("p0000" + told[i] + ";");
            due.is("WARMTH of " + told[i], x.person(0, 4), want[i]);
        }
    }

    /** "GRUDGES between two (none at first)": of who comes later, too. */
    private static void noGrudgesAtFirst() {
        OverByTheHand x = Due.river("p00000;p00000;g01;p00000;");
        due.is("GRUDGE of who was there", x.grudge(0, 1), 1);
        due.is("GRUDGE of who came later", x.grudge(0, 2), 0);
        due.is("GRUDGE of who came later", x.grudge(2, 1), 0);
        due.is("GRUDGES of a new object", new OverByTheHand().count(6), 0);
    }

    /** "Each is on the near bank (at first), in a YARD, or OVER." */
    private static void nearBankAtFirst() {
        OverByTheHand x = Due.river(SEVEN);
        for (int p = 0; p < 7; p++) {
            due.is("where " + p + " is", x.person(p, 8), -9);
        }
        due.is("in the water", x.count(4), 0);
        due.is("OVER", x.count(5), 0);
    }

    /** "HOURS: how many one owes another (0 at first)." */
    private static void noHoursAtFirst() {
        OverByTheHand x = Due.river(SEVEN);
        for (int p = 1; p < 7; p++) {
            due.is("owes(0, " + p + ")", x.owes(0, p), 0);
            due.is("owes(" + p + ", 0)", x.owes(p, 0), 0);
        }
        due.is("owed(6)", x.owed(6), 0);
        due.is("all HOURS", x.count(7), 0);
    }

    /** "REACHES: ONE HEIGHT; TALL a ONE's and 2". */
    private static void reachesOfOneAndTall() {
        reaches(0, 0, 0);
        reaches(0, 9, 9);
        reaches(1, 0, 2);
        reaches(1, 9, 11);
    }

    /** "SMALL half of a ONE's, cut". */
    private static void reachesOfSmallIsCut() {
        int[] halves = {0, 0, 1, 1, 2, 2, 3, 3, 4, 4};
        for (int height = 0; height < halves.length; height++) {
            reaches(2, height, halves[height]);
        }
    }

    /** "SWIMMER 99". */
    private static void reachesOfSwimmer() {
        reaches(3, 0, 99);
        reaches(3, 9, 99);
    }

    /** "STOUT as a TALL; HARDY as a STOUT." */
    private static void reachesOfStoutAndHardy() {
        for (int kind = 4; kind <= 5; kind++) {
            reaches(kind, 0, 2);
            reaches(kind, 9, 11);
        }
    }

    /** "HOLDS: ONE STRENGTH; TALL as a ONE". */
    private static void holdsOfOneAndTall() {
        for (int kind = 0; kind <= 1; kind++) {
            holds(kind, 9, 0, 0);
            holds(kind, 0, 9, 9);
            holds(kind, 9, 9, 9);
        }
    }

    /** "SMALL a ONE's less 2, 0 at least". */
    private static void holdsOfSmallIsNotBelow0() {
        int[] less = {0, 0, 0, 1, 2, 3, 4, 5, 6, 7};
        for (int strength = 0; strength < less.length; strength++) {
            holds(2, 9, strength, less[strength]);
        }
    }

    /** "SWIMMER half of a ONE's, cut". */
    private static void holdsOfSwimmerIsCut() {
        int[] halves = {0, 0, 1, 1, 2, 2, 3, 3, 4, 4};
        for (int strength = 0; strength < halves.length; strength++) {
            holds(3, 9, strength, halves[strength]);
        }
    }

    /** "STOUT a TALL's and FIGURE; HARDY a STOUT's." */
    private static void holdsOfStoutAndHardy() {
        for (int kind = 4; kind <= 5; kind++) {
            holds(kind, 0, 0, 0);
            holds(kind, 9, 0, 9);
            holds(kind, 0, 9, 9);
            holds(kind, 9, 9, 18);
        }
    }

    /** "COOLS in a MINUTE: ONE COLD and 1; TALL as a ONE; .. SWIMMER as a ONE". */
    private static void coolsOfOneTallSwimmer() {
        for (int kind : new int[] {0, 1, 3}) {
            cools(kind, 0, 1);
            cools(kind, 1, 2);
            cools(kind, 9, 10);
        }
    }

    /** "SMALL twice a ONE's". */
    private static void coolsOfSmall() {
        cools(2, 0, 2);
        cools(2, 1, 4);
        cools(2, 9, 20);
    }

    /** "STOUT a TALL's less 1, 1 at least". */
    private static void coolsOfStoutIsNotBelow1() {
        cools(4, 0, 1);
        cools(4, 1, 1);
        cools(4, 2, 2);
        cools(4, 9, 9);
    }

    /** "HARDY 1." */
    private static void coolsOfHardy() {
        cools(5, 0, 1);
        cools(5, 1, 1);
        cools(5, 9, 1);
    }

    /** yard: "who is in it (2; -9)". */
    private static void whoIsInAYard() {
        OverByTheHand x = Due.river("y5;" + SEVEN);
        due.is("who is in an empty YARD", x.yard(4, 2), -9);
        x.put(4, 6);
        due.is("who is in the last YARD", x.yard(4, 2), 6);
        x.put(0, 0);
        due.is("who is in the first YARD", x.yard(0, 2), 0);
        due.is("yard(4, 3)", x.yard(4, 3), -2);
        due.is("yard(4, -1)", x.yard(4, -1), -2);
    }

    /** person: "in which YARD he is (8; -9 on the near bank, 9 OVER)". */
    private static void whereOneIs() {
        OverByTheHand x = Due.river("y5;c0;" + "p009999;".repeat(7));
        for (int k = 0; k < 5; k++) {
            x.put(k, 6 - k);
            due.is("in YARD " + k, x.person(6 - k, 8), k);
        }
        due.is("on the near bank", x.person(0, 8), -9);
        x.cross(0);
        due.is("OVER", x.person(0, 8), 9);
        x.out();
        due.is("on the near bank again", x.person(0, 8), -9);
        due.is("person(0, 9)", x.person(0, 9), -2);
        due.is("person(0, -1)", x.person(0, -1), -2);
    }

    /** grudge: "Whether two have a GRUDGE: 1, 0." */
    private static void grudgeIsOfBoth() {
        OverByTheHand x = Due.river(SEVEN);
        x.quarrel(6, 0, 1);
        due.is("grudge(0, 6)", x.grudge(0, 6), 1);
        due.is("grudge(6, 0)", x.grudge(6, 0), 1);
        due.is("grudge(0, 5)", x.grudge(0, 5), 0);
        due.is("grudge(1, 6)", x.grudge(1, 6), 0);
        x.quarrel(0, 6, 0);
        due.is("grudge(0, 6)", x.grudge(0, 6), 0);
        due.is("grudge(6, 0)", x.grudge(6, 0), 0);
    }

    /** quarrel: "They have one (1), or none (0): what it was." */
    private static void quarrelAnswersWhatItWas() {
        OverByTheHand x = Due.river("p00000;p00000;");
        due.is("none, where there was none", x.quarrel(0, 1, 0), 0);
        due.is("none yet", x.grudge(0, 1), 0);
        due.is("one, where there was none", x.quarrel(0, 1, 1), 0);
        due.is("one, where there was one", x.quarrel(1, 0, 1), 1);
        due.is("one yet", x.grudge(0, 1), 1);
        due.is("none, where there was one", x.quarrel(1, 0, 0), 1);
        due.is("none", x.count(6), 0);
        due.is("quarrel(0, 1, 2)", x.quarrel(0, 1, 2), -2);
        due.is("quarrel(0, 1, -1)", x.quarrel(0, 1, -1), -2);
    }

    /** count: "6 GRUDGES": none, and between all. */
    private static void allGrudges() {
        OverByTheHand x = Due.river(SEVEN);
        int n = 0;
        for (int a = 0; a < 7; a++) {
            for (int b = a + 1; b < 7; b++) {
                x.quarrel(a, b, 1);
                n++;
                due.is("GRUDGES", x.count(6), n);
            }
        }
        due.is("GRUDGES between all", n, 21);
    }
}
