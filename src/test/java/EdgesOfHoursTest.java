/** The boundary cases of HOURS and RINGS; promises 22 to 24. */
public final class EdgesOfHoursTest {
    private static final Due due = new Due("EdgesOfHoursTest");

    public static void main(String[] args) {
        owesOfTwo();
        owesFromFirstToLast();
        owedBelow0();
        owedOfNobody();
        owedAtTheMost();
        owedAtTheLeast();
        allHours();
        strikeOfNothing();
        oneWayIsNoRing();
        twoAreStruckByTheLeast();
        twoAlike();
        threeAreStruckByTheLeast();
        threeTheOtherWay();
        fourAreNoRing();
        twoAheadOfThree();
        theFirstOfTwoRingsWithOneBetweenThem();
        laterRingsOfTheFirst();
        ringsOfTheLastOnes();
        allRingsOfThree();
        strikeIsDoneAtOnce();
        owedStaysByStriking();
        strikeOf99();
        due.end();
    }

    private static OverByTheHand people(int n) {
        return Due.river("y1;c0;" + "p009999;".repeat(n));
    }

    /** One goes over by another, some times. */
    private static void owe(OverByTheHand x, int one, int other, int hours) {
        for (int i = 0; i < hours; i++) {
            x.put(0, other);
            x.cross(one);
            x.out();
        }
    }

    /** Each row: who owes, to whom, how many. */
    private static OverByTheHand owing(int n, int[]... rows) {
        OverByTheHand x = people(n);
        for (int[] row : rows) {
            owe(x, row[0], row[1], row[2]);
        }
        return x;
    }

    private static void left(OverByTheHand x, int[]... rows) {
        int all = 0;
        for (int[] row : rows) {
            due.is("owes(" + row[0] + ", " + row[1] + ")", x.owes(row[0], row[1]), row[2]);
            all += row[2];
        }
        due.is("all HOURS", x.count(7), all);
    }

    /** owes: "HOURS one owes another. -1 two." */
    private static void owesOfTwo() {
        OverByTheHand x = people(2);
        due.is("owes(0, 1)", x.owes(0, 1), 0);
        due.is("owes(0, 0)", x.owes(0, 0), -1);
        due.is("owes(1, 1)", x.owes(1, 1), -1);
        due.is("owes(0, 2)", x.owes(0, 2), -1);
        due.is("owes(2, 0)", x.owes(2, 0), -1);
        due.is("owes(0, -1)", x.owes(0, -1), -1);
        due.is("owes(-1, 0)", x.owes(-1, 0), -1);
        due.is("owes(0, 1) of nobody", new OverByTheHand().owes(0, 1), -1);
    }

    /** "how many one owes another": of the first and of the last, each way for itself. */
    private static void owesFromFirstToLast() {
        OverByTheHand x = owing(7, new int[] {0, 6, 2}, new int[] {6, 0, 1}, new int[] {5, 6, 3});
        left(x, new int[] {0, 6, 2}, new int[] {6, 0, 1}, new int[] {5, 6, 3}, new int[] {6, 5, 0}, new int[] {0, 5, 0});
    }

    /** "OWED: HOURS others owe one less those that he owes (may be below 0)." */
    private static void owedBelow0() {
        OverByTheHand x = owing(3, new int[] {0, 1, 2}, new int[] {1, 2, 2}, new int[] {2, 1, 1});
        due.is("owed(0)", x.owed(0), -2);
        due.is("owed(1)", x.owed(1), 1);
        due.is("owed(2)", x.owed(2), 1);
        owe(x, 2, 0, 2);
        due.is("owed(0), as many as he owes", x.owed(0), 0);
        due.is("owed(2), -1 is no REFUSAL", x.owed(2), -1);
        due.is("REFUSALS -1", x.count(11), 0);
    }

    /** owed: "Refused as told: -1."; "Of owed() 1000000000 less them." */
    private static void owedOfNobody() {
        OverByTheHand x = people(7);
        due.is("owed(6)", x.owed(6), 0);
        due.is("owed(7)", x.owed(7), 1000000001);
        due.is("owed(0)", x.owed(0), 0);
        due.is("owed(-1)", x.owed(-1), 1000000001);
        due.is("REFUSALS -1", x.count(11), 2);
        due.is("owed(0) of nobody", new OverByTheHand().owed(0), 1000000001);
    }

    /** "(99 at most)": all HOURS that one can be owed by one. */
    private static void owedAtTheMost() {
        OverByTheHand x = owing(2, new int[] {0, 1, 100});
        left(x, new int[] {0, 1, 99}, new int[] {1, 0, 0});
        due.is("owed(1)", x.owed(1), 99);
        due.is("owed(0)", x.owed(0), -99);
    }

    /** "(may be below 0)": far below by owing several. */
    private static void owedAtTheLeast() {
        OverByTheHand x = Due.river("y5;c0;" + "p009999;".repeat(6), "i01;i12;i23;i34;i45;");
        for (int n = 1; n <= 20; n++) {
            x.cross(0);
            due.is("owed(0)", x.owed(0), -5 * n);
            x.out();
            Due.tell(x, "i01;i12;i23;i34;");
            x.put(4, 5);
        }
        due.is("owed(5)", x.owed(5), 20);
    }

    /** count: "7 all HOURS". */
    private static void allHours() {
        OverByTheHand x = owing(7, new int[] {0, 6, 3}, new int[] {6, 0, 4}, new int[] {3, 2, 1});
        due.is("all HOURS", x.count(7), 8);
        due.is("all HOURS of nobody", new OverByTheHand().count(7), 0);
    }

    /** strike: "how many RINGS were struck": none. */
    private static void strikeOfNothing() {
        due.is("strike() of a new object", new OverByTheHand().strike(), 0);
        due.is("strike() of one", people(1).strike(), 0);
        due.is("strike() of seven who owe nothing", people(7).strike(), 0);
    }

    /** "RINGS: two or three who owe each the next one, the last the first": a row that does not close is none. */
    private static void oneWayIsNoRing() {
        OverByTheHand x = owing(3, new int[] {0, 1, 2}, new int[] {1, 2, 2}, new int[] {0, 2, 1});
        due.is("strike()", x.strike(), 0);
        left(x, new int[] {0, 1, 2}, new int[] {1, 2, 2}, new int[] {0, 2, 1});
    }

    /** "is lessened by the least HOURS in it": of two. */
    private static void twoAreStruckByTheLeast() {
        OverByTheHand x = owing(2, new int[] {0, 1, 3}, new int[] {1, 0, 1});
        due.is("strike()", x.strike(), 1);
        left(x, new int[] {0, 1, 2}, new int[] {1, 0, 0});
        OverByTheHand y = owing(2, new int[] {0, 1, 1}, new int[] {1, 0, 3});
        due.is("strike()", y.strike(), 1);
        left(y, new int[] {0, 1, 0}, new int[] {1, 0, 2});
    }

    /** "is lessened by the least HOURS in it": nothing is left of two alike. */
    private static void twoAlike() {
        OverByTheHand x = owing(2, new int[] {0, 1, 2}, new int[] {1, 0, 2});
        due.is("strike()", x.strike(), 1);
        left(x, new int[] {0, 1, 0}, new int[] {1, 0, 0});
    }

    /** "is lessened by the least HOURS in it": of three, wherever the least is. */
    private static void threeAreStruckByTheLeast() {
        for (int least = 0; least < 3; least++) {
            int[] hours = {4, 4, 4};
            hours[least] = 3;
            OverByTheHand x = owing(3, new int[] {0, 1, hours[0]}, new int[] {1, 2, hours[1]}, new int[] {2, 0, hours[2]});
            due.is("strike()", x.strike(), 1);
            left(x, new int[] {0, 1, hours[0] - 3}, new int[] {1, 2, hours[1] - 3}, new int[] {2, 0, hours[2] - 3});
        }
    }

    /** "three who owe each the next one": the other way round is another ring. */
    private static void threeTheOtherWay() {
        OverByTheHand x = owing(3, new int[] {0, 2, 2}, new int[] {2, 1, 2}, new int[] {1, 0, 1});
        due.is("strike()", x.strike(), 1);
        left(x, new int[] {0, 2, 1}, new int[] {2, 1, 1}, new int[] {1, 0, 0});
    }

    /** "RINGS: two or three": four are none. */
    private static void fourAreNoRing() {
        OverByTheHand x = owing(4, new int[] {0, 1, 1}, new int[] {1, 2, 1}, new int[] {2, 3, 1}, new int[] {3, 0, 1});
        due.is("strike()", x.strike(), 0);
        left(x, new int[] {0, 1, 1}, new int[] {1, 2, 1}, new int[] {2, 3, 1}, new int[] {3, 0, 1});
    }

    /** "the first (two ahead of three ..)": even if the two come later by PEOPLE. */
    private static void twoAheadOfThree() {
        OverByTheHand x = owing(3, new int[] {0, 1, 1}, new int[] {1, 2, 1}, new int[] {2, 0, 1}, new int[] {2, 1, 1});
        due.is("strike()", x.strike(), 1);
        left(x, new int[] {0, 1, 1}, new int[] {1, 2, 0}, new int[] {2, 0, 1}, new int[] {2, 1, 0});
        OverByTheHand y = owing(3, new int[] {0, 1, 1}, new int[] {1, 2, 2}, new int[] {2, 0, 1}, new int[] {2, 1, 1});
        due.is("strike() of two and of three", y.strike(), 2);
        left(y, new int[] {0, 1, 0}, new int[] {1, 2, 0}, new int[] {2, 0, 0}, new int[] {2, 1, 0});
    }

    /** A ring of three first, a later one that has an HOUR in common with it; the later one stays. */
    private static void firstOf(int[] first, int[] later) {
        OverByTheHand x = people(7);
        int[][] owed = new int[7][7];
        for (int[] ring : new int[][] {later, first}) {
            for (int i = 0; i < 3; i++) {
                int one = ring[i];
                int next = ring[(i + 1) % 3];
                if (owed[one][next] == 0) {
                    owe(x, one, next, 1);
                }
                owed[one][next] = ring == first ? 2 : 1;
            }
        }
        due.is("strike() of rings with one between them", x.strike(), 1);
        for (int one = 0; one < 7; one++) {
            for (int next = 0; next < 7; next++) {
                if (owed[one][next] > 0) {
                    due.is("owes(" + one + ", " + next + ")", x.owes(one, next), owed[one][next] == 2 ? 0 : 1);
                }
            }
        }
    }

    /** "the least of it first; by PEOPLE one behind the other". */
    private static void theFirstOfTwoRingsWithOneBetweenThem() {
        firstOf(new int[] {0, 1, 2}, new int[] {0, 1, 3});
        firstOf(new int[] {0, 1, 2}, new int[] {0, 3, 2});
        firstOf(new int[] {0, 1, 2}, new int[] {1, 2, 3});
        firstOf(new int[] {0, 2, 1}, new int[] {0, 3, 1});
        firstOf(new int[] {0, 2, 1}, new int[] {0, 2, 3});
        firstOf(new int[] {0, 3, 2}, new int[] {1, 3, 2});
        firstOf(new int[] {0, 1, 6}, new int[] {0, 5, 6});
        firstOf(new int[] {1, 4, 2}, new int[] {1, 4, 3});
        firstOf(new int[] {4, 5, 6}, new int[] {4, 5, 6});
    }

    /** "STRIKING as long as there is one": what is left of the first goes into the next ones. */
    private static void laterRingsOfTheFirst() {
        OverByTheHand x = owing(4, new int[] {0, 1, 3}, new int[] {1, 2, 1}, new int[] {2, 0, 1}, new int[] {1, 3, 1},
            new int[] {3, 0, 2});
        due.is("strike()", x.strike(), 2);
        left(x, new int[] {0, 1, 1}, new int[] {1, 2, 0}, new int[] {2, 0, 0}, new int[] {1, 3, 0}, new int[] {3, 0, 1});
    }

    /** "PEOPLE 0 .. 6": the last ones. */
    private static void ringsOfTheLastOnes() {
        OverByTheHand x = owing(7, new int[] {5, 6, 2}, new int[] {6, 5, 1}, new int[] {6, 4, 1}, new int[] {4, 5, 1},
            new int[] {0, 6, 1}, new int[] {6, 0, 1});
        due.is("strike()", x.strike(), 3);
        left(x, new int[] {5, 6, 0}, new int[] {6, 5, 0}, new int[] {6, 4, 0}, new int[] {4, 5, 0}, new int[] {0, 6, 0});
    }

    /** "three who owe each the next one": each of the seventy rings of three that seven can have. */
    private static void allRingsOfThree() {
        int n = 0;
        for (int a = 0; a < 7; a++) {
            for (int b = a + 1; b < 7; b++) {
                for (int c = a + 1; c < 7; c++) {
                    if (b != c) {
                        OverByTheHand x = owing(7, new int[] {a, b, 2}, new int[] {b, c, 1}, new int[] {c, a, 2});
                        due.is("strike() of " + a + ", " + b + ", " + c, x.strike(), 1);
                        left(x, new int[] {a, b, 1}, new int[] {b, c, 0}, new int[] {c, a, 1});
                        n++;
                    }
                }
            }
        }
        due.is("rings of three", n, 70);
    }

    /** "STRIKING as long as there is one": none is left then. */
    private static void strikeIsDoneAtOnce() {
        OverByTheHand x = owing(4, new int[] {0, 1, 3}, new int[] {1, 0, 1}, new int[] {1, 2, 3}, new int[] {2, 0, 3},
            new int[] {2, 3, 2}, new int[] {3, 1, 2});
        due.is("strike()", x.strike(), 3);
        due.is("strike() again", x.strike(), 0);
        left(x, new int[] {0, 1, 0}, new int[] {1, 0, 0}, new int[] {1, 2, 0}, new int[] {2, 0, 1}, new int[] {2, 3, 1},
            new int[] {3, 1, 1});
    }

    /** "OWED" stays as it is, by whatever ring is struck. */
    private static void owedStaysByStriking() {
        OverByTheHand x = owing(3, new int[] {0, 1, 3}, new int[] {1, 0, 1}, new int[] {1, 2, 3}, new int[] {2, 0, 1});
        int[] before = {x.owed(0), x.owed(1), x.owed(2)};
        due.is("strike()", x.strike(), 2);
        for (int p = 0; p < 3; p++) {
            due.is("owed(" + p + ")", x.owed(p), before[p]);
        }
        due.is("MINUTE stays", x.count(3), 8);
    }

    /** "(99 at most)": the most HOURS are struck at once. */
    private static void strikeOf99() {
        OverByTheHand x = owing(2, new int[] {0, 1, 99}, new int[] {1, 0, 60});
        due.is("strike()", x.strike(), 1);
        left(x, new int[] {0, 1, 39}, new int[] {1, 0, 0});
    }
}
