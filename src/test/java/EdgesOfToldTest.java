import java.math.BigInteger;

/** The boundary cases of WET, ROW, JUDGED, SEEDS; promises 25 to 28. */
public final class EdgesOfToldTest {
    private static final Due due = new Due("EdgesOfToldTest");
    private static final String SEVEN = "p009999;".repeat(7);
    private static final int LEAST = Integer.MIN_VALUE;
    private static final int GREATEST = Integer.MAX_VALUE;

    public static void main(String[] args) {
        wetOfNobody();
        wetOfJustThese();
        wetOfAll();
        wetBitsOfNobody();
        wetNotOneOfThem();
        wetOfWhoIsOver();
        wetThatDoesNotStand();
        wetYardsOfOne();
        rowFromLeastToGreatest();
        rowOfFive();
        judgeOfAnEmptyRow();
        judgeEmptiesTheRow();
        judgeTooFewAndTooMany();
        judgeOneWhoIsNone();
        judgeOneWhoIsOver();
        judgeOneWhoCameAlready();
        judgeWhoSlips();
        judgeTheFirstOfAll();
        judgeLooksAtNobodyInTheWater();
        seedsFrom1To60();
        seedsOfNobody();
        drawsBelowHowManyThereAre();
        drawsOfOne();
        seedsWrapAround();
        seedsGoOnFromDrawToDraw();
        seedsOfNoTwoAlike();
        seedsLessWhoIsOver();
        seedsThatDoNotStand();
        due.end();
    }

    /** wet: "told PEOPLE (bits ..)": no bits, nobody. */
    private static void wetOfNobody() {
        OverByTheHand fresh = new OverByTheHand();
        due.is("wet(0, -1) of a new object", fresh.wet(0, -1), 0);
        due.is("wet(0, 0) of a new object", fresh.wet(0, 0), -1);
        due.is("wet(1, -1) of a new object", fresh.wet(1, -1), -1);
        OverByTheHand x = Due.river("y1;p009999;");
        due.is("wet(0, -1)", x.wet(0, -1), 0);
        due.is("wet(0, 0), not one of them", x.wet(0, 0), -1);
        due.is("wet(1, -1)", x.wet(1, -1), 1);
        due.is("wet(1, 0)", x.wet(1, 0), 1);
    }

    /** "in how many CHAINS of just these, that STAND": one too few, as many as YARDS, one too many. */
    private static void wetOfJustThese() {
        int[] orders = {1, 2, 6, 24, 120};
        for (int yards = 1; yards <= 5; yards++) {
            OverByTheHand x = Due.river("y" + yards + ";" + SEVEN);
            int just = (1 << yards) - 1;
            due.is("wet of one too few", x.wet(just >> 1, -1), 0);
            due.is("wet of just as many", x.wet(just, -1), orders[yards - 1]);
            due.is("wet of the last ones", x.wet(just << 7 - yards, -1), orders[yards - 1]);
            due.is("wet of one too many", x.wet(just << 1 | 1, -1), 0);
            due.is("YARDS of the first", x.wet(just, 0), just);
            due.is("YARDS of one of one too many", x.wet(just << 1 | 1, 0), 0);
            due.is("YARDS of one of one too few", yards == 1 ? 0 : x.wet(just >> 1, 0), 0);
        }
    }

    /** "told PEOPLE (bits ..)": all seven are too many for five YARDS. */
    private static void wetOfAll() {
        OverByTheHand x = Due.river("y5;" + SEVEN);
        due.is("wet(127, -1)", x.wet(127, -1), 0);
        due.is("wet(127, 6)", x.wet(127, 6), 0);
        due.is("wet(124, -1), the last five", x.wet(124, -1), 120);
        due.is("wet(124, 6)", x.wet(124, 6), 31);
        due.is("wet(128, -1)", x.wet(128, -1), -1);
    }

    /** wet: "-1 (bits of nobody ..": the bit behind the last, the sign's bit, all bits. */
    private static void wetBitsOfNobody() {
        for (int n = 1; n <= 7; n++) {
            OverByTheHand x = Due.river("y1;" + SEVEN.substring(0, 8 * n));
            due.is("the last of " + n, x.wet(1 << n - 1, -1), 1);
            due.is("behind the last of " + n, x.wet(1 << n, -1), -1);
            due.is("the first, and behind the last", x.wet(1 << n | 1, 0), -1);
            due.is("the sign's bit", x.wet(LEAST | 1, -1), -1);
            due.is("all bits", x.wet(-1, -1), -1);
            due.is("all but the sign's bit", x.wet(GREATEST, 0), -1);
            due.is("REFUSALS -1", x.count(11), 5);
        }
    }

    /** wet: "how many (person -1)", "-1 (..; not one of them)". */
    private static void wetNotOneOfThem() {
        OverByTheHand x = Due.river("y2;" + SEVEN);
        due.is("wet(66, 6)", x.wet(66, 6), 3);
        due.is("wet(66, 1)", x.wet(66, 1), 3);
        for (int person : new int[] {-2, 0, 2, 5, 7, 32, 33, 38, 65, LEAST, LEAST + 1, GREATEST}) {
            due.is("wet(66, " + person + ")", x.wet(66, person), -1);
        }
    }

    /** "told PEOPLE (bits; not OVER)"; "-1 (.. of who is OVER ..)". */
    private static void wetOfWhoIsOver() {
        OverByTheHand x = Due.river("y1;" + SEVEN, "i00;");
        x.cross(6);
        due.is("who is OVER", x.wet(64, -1), -1);
        due.is("who is OVER", x.wet(64, 6), -1);
        due.is("who is in the water", x.wet(1, -1), 1);
        due.is("who is near", x.wet(2, -1), 1);
        due.is("one of them is OVER", x.wet(65, 0), -1);
        x.out();
        due.is("who is OVER no more", x.wet(64, -1), 1);
    }

    /** "that STAND": none does. */
    private static void wetThatDoesNotStand() {
        OverByTheHand x = Due.river("y2;d092;p009999;p008999;p008999;");
        due.is("wet(3, -1)", x.wet(3, -1), 1);
        due.is("wet(3, 0)", x.wet(3, 0), 1);
        due.is("wet(3, 1)", x.wet(3, 1), 2);
        due.is("wet(6, -1)", x.wet(6, -1), 0);
        due.is("wet(6, 1)", x.wet(6, 1), 0);
        x.quarrel(0, 1, 1);
        due.is("wet(3, -1) with a GRUDGE", x.wet(3, -1), 0);
        due.is("wet(5, -1)", x.wet(5, -1), 1);
    }

    /** wet: "YARDS of one (bits)": the first, the last, some, all. */
    private static void wetYardsOfOne() {
        OverByTheHand x = Due.river("y5;d092;d452;p009999;p005999;p004999;p004999;p004999;");
        due.is("YARDS of the highest", x.wet(31, 0), 1);
        due.is("YARDS of who reaches the last", x.wet(31, 1), 16);
        due.is("YARDS of another", x.wet(31, 2), 14);
        due.is("CHAINS", x.wet(31, -1), 6);
    }

    /** "A ROW of PEOPLE (0 .. 6 ..)"; row: "-4; -6 (6 ..)": whether there are such PEOPLE or not. */
    private static void rowFromLeastToGreatest() {
        OverByTheHand x = new OverByTheHand();
        due.is("row(-1)", x.row(-1), -4);
        due.is("row(0)", x.row(0), 1);
        due.is("row(6)", x.row(6), 2);
        due.is("row(7)", x.row(7), -6);
        due.is("in the ROW", x.count(9), 2);
    }

    /** "(..; 5 at most)"; row: "-6 (..; 5, too)". */
    private static void rowOfFive() {
        OverByTheHand x = new OverByTheHand();
        for (int n = 1; n <= 5; n++) {
            due.is("row(3)", x.row(3), n);
        }
        due.is("row(3), the sixth", x.row(3), -6);
        due.is("row(-1), the sixth", x.row(-1), -4);
        due.is("row(7), the sixth", x.row(7), -6);
        due.is("in the ROW", x.count(9), 5);
        x.judge();
        due.is("row(3) anew", x.row(3), 1);
    }

    private static void judged(OverByTheHand x, String when, int want, int... people) {
        for (int person : people) {
            x.row(person);
        }
        due.is("judge() " + when, x.judge(), want);
    }

    /** "too few: how many": none. */
    private static void judgeOfAnEmptyRow() {
        judged(new OverByTheHand(), "of an empty ROW", 0);
        judged(Due.river("y1;p009999;i00;"), "of an empty ROW", 0);
    }

    /** judge: "(the ROW has none then)": whatever it answers. */
    private static void judgeEmptiesTheRow() {
        OverByTheHand x = Due.river("y2;p009999;p009999;");
        judged(x, "of a CHAIN that STANDS", -9, 0, 1);
        due.is("in the ROW", x.count(9), 0);
        judged(x, "of an empty ROW", 0);
        judged(x, "of one who is none", 0, 6, 0, 1);
        due.is("in the ROW", x.count(9), 0);
        judged(x, "of another CHAIN that STANDS", -9, 1, 0);
    }

    /** "(.. too few: how many; too many: how many YARDS); -9". */
    private static void judgeTooFewAndTooMany() {
        for (int yards = 1; yards <= 5; yards++) {
            OverByTheHand x = Due.river("y" + yards + ";" + SEVEN);
            for (int n = 0; n <= 5; n++) {
                int[] people = new int[n];
                for (int i = 0; i < n; i++) {
                    people[i] = 6 - i;
                }
                judged(x, "of " + n + " in " + yards + " YARDS", n == yards ? -9 : Math.min(n, yards), people);
            }
        }
    }

    /** "(one who is none ..: his place ..)". */
    private static void judgeOneWhoIsNone() {
        OverByTheHand x = Due.river("y3;p009999;p009999;p009999;");
        judged(x, "of the last one", -9, 0, 1, 2);
        judged(x, "of one behind the last", 2, 0, 1, 3);
        judged(x, "of one behind the last", 1, 0, 6, 1);
        judged(x, "of one behind the last", 0, 3, 0, 1);
        judged(x, "of one who is none behind the YARDS", 3, 0, 1, 2, 6);
        judged(new OverByTheHand(), "of nobody", 0, 0);
    }

    /** "(.. is OVER ..: his place ..)". */
    private static void judgeOneWhoIsOver() {
        OverByTheHand x = Due.river("y1;p009999;p009999;p009999;i00;");
        x.cross(2);
        judged(x, "of who is OVER", 0, 2);
        Due.tell(x, "y3;");
        judged(x, "of who is OVER", 2, 0, 1, 2);
        judged(x, "of who is OVER", 1, 0, 2, 1);
        x.out();
        judged(x, "of who is OVER no more", -9, 0, 2, 1);
    }

    /** "(.. or came already: his place ..)". */
    private static void judgeOneWhoCameAlready() {
        OverByTheHand x = Due.river("y3;p009999;p009999;p009999;");
        judged(x, "of one at once again", 1, 0, 0, 1);
        judged(x, "of the first again", 2, 0, 1, 0);
        judged(x, "of the second again", 2, 0, 1, 1);
        judged(x, "of one again behind the YARDS", 3, 0, 1, 2, 0);
    }

    /** "the place of the first by whom SLIPS would tell that YARD": DEPTH, LOAD, a GRUDGE, just and not. */
    private static void judgeWhoSlips() {
        OverByTheHand x = Due.river("y3;d022;d152;d202;p002299;p005299;p004299;p009199;p001999;g12;");
        judged(x, "of who just can", -9, 0, 1, 4);
        judged(x, "of who lacks one of DEPTH", 1, 0, 2, 1);
        judged(x, "of who lacks one of DEPTH", 0, 4, 1, 0);
        judged(x, "of who lacks one of LOAD", 2, 0, 1, 3);
        judged(x, "of a GRUDGE", 2, 0, 1, 2);
        judged(x, "of a GRUDGE with who is ahead", 1, 2, 1, 0);
    }

    /** "the place of the first": whatever comes behind it. */
    private static void judgeTheFirstOfAll() {
        OverByTheHand x = Due.river("y3;d192;p009999;p009999;p008999;g01;");
        judged(x, "of a GRUDGE, then one who is none", 1, 0, 1, 6);
        judged(x, "of DEPTH, then too many", 1, 0, 2, 1, 1, 1);
        judged(x, "of DEPTH, then too few", 1, 0, 2);
        judged(x, "of too few", 1, 0);
        judged(x, "of one who is none, then DEPTH", 0, 5, 2, 0);
    }

    /** "if told ones stood in YARDS 0, 1, ..": who is in the water does not matter. */
    private static void judgeLooksAtNobodyInTheWater() {
        OverByTheHand x = Due.river("y2;p009999;p009999;p009999;g01;i00;i11;");
        judged(x, "of who is in the water elsewhere", -9, 2, 0);
        judged(x, "of one in the water, one near", -9, 1, 2);
        due.is("who is in YARD 0 yet", x.yard(0, 2), 0);
        due.is("slips(0)", x.slips(0), 1);
    }

    /** The document's DRAWS in numbers that never wrap around by themselves. */
    private static BigInteger next(BigInteger z) {
        BigInteger wrap = BigInteger.ONE.shiftLeft(32);
        BigInteger grown = z.multiply(BigInteger.valueOf(1103515245)).add(BigInteger.valueOf(12345)).mod(wrap);
        return grown.testBit(31) ? grown.subtract(wrap) : grown;
    }

    private static int draw(BigInteger z, int n) {
        BigInteger without = z.testBit(31) ? z.clearBit(31).mod(BigInteger.ONE.shiftLeft(31)) : z;
        return without.divide(BigInteger.valueOf(65536)).mod(BigInteger.valueOf(n)).intValue();
    }

    /** SEEDS: "n times (1 .. 60)"; seeds: "-4; -6 60". */
    private static void seedsFrom1To60() {
        OverByTheHand x = Due.river("y1;p009999;");
        due.is("seeds(0, 1)", x.seeds(0, 1), -4);
        due.is("seeds(1, 1)", x.seeds(1, 1), 1);
        due.is("seeds(60, 1)", x.seeds(60, 1), 60);
        due.is("seeds(61, 1)", x.seeds(61, 1), -6);
    }

    /** seeds: "-3 there are no PEOPLE." */
    private static void seedsOfNobody() {
        OverByTheHand x = new OverByTheHand();
        due.is("seeds(1, 1)", x.seeds(1, 1), -3);
        due.is("seeds(60, 1)", x.seeds(60, 1), -3);
        due.is("seeds(0, 1): -4 first", x.seeds(0, 1), -4);
        due.is("seeds(61, 1): -6 first", x.seeds(61, 1), -6);
        OverByTheHand few = Due.river("y2;p009999;");
        due.is("seeds(60, 1) of too few", few.seeds(60, 1), 0);
    }

    /** A river of one YARD where of n PEOPLE only one can stand, so that seeds(1, z) tells whether he was drawn. */
    private static OverByTheHand onlyOneStands(int n, int who) {
        StringBuilder letters = new StringBuilder("y1;d092;");
        for (int p = 0; p < n; p++) {
            letters.append(p == who ? "p00999;" : "p00899;");
        }
        return Due.river(letters.toString());
    }

    private static final int[] ZS = {0, 1, -1, 2, 65535, 65536, 12345, -12345, 1000000007, LEAST, LEAST + 1, GREATEST,
        GREATEST - 1, 1103515245, -1103515245, 1 << 30, 7, 99, -99};

    /** "a DRAW below how many PEOPLE there are": 1 to 7 of them. */
    private static void drawsBelowHowManyThereAre() {
        for (int n = 1; n <= 7; n++) {
            for (int who = 0; who < n; who++) {
                OverByTheHand x = onlyOneStands(n, who);
                for (int z : ZS) {
                    int want = draw(next(BigInteger.valueOf(z)), n) == who ? 1 : 0;
                    due.is("seeds(1, " + z + ") of " + n + ", only " + who + " can stand", x.seeds(1, z), want);
                }
            }
        }
    }

    /** "a DRAW below n is .. modulo n": below 1 it is always 0. */
    private static void drawsOfOne() {
        OverByTheHand x = onlyOneStands(1, 0);
        for (int z : ZS) {
            due.is("seeds(60, " + z + ") of one", x.seeds(60, z), 60);
        }
    }

    private static int standing(OverByTheHand x, int yards, int people, int n, int seed) {
        BigInteger z = BigInteger.valueOf(seed);
        int stood = 0;
        for (int i = 0; i < n; i++) {
            int[] drawn = new int[yards];
            for (int k = 0; k < yards; k++) {
                z = next(z);
                drawn[k] = draw(z, people);
                x.row(drawn[k]);
            }
            stood += x.judge() == -9 ? 1 : 0;
        }
        return stood;
    }

    private static void seedsAsJudged(String letters, int n) {
        for (int z : ZS) {
            OverByTheHand asked = Due.river(letters);
            OverByTheHand judge = Due.river(letters);
            int want = standing(judge, judge.count(0), judge.count(1), n, z);
            due.is("seeds(" + n + ", " + z + ") of " + letters, asked.seeds(n, z), want);
        }
    }

    /** "z becomes z times 1103515245 and 12345 (an int)": it wraps around; "z without its sign's bit". */
    private static void seedsWrapAround() {
        seedsAsJudged("y2;p009999;p009999;p009999;", 60);
        seedsAsJudged("y1;d092;p009999;p008999;p008999;p009999;p009999;", 60);
    }

    /** "for each YARD a DRAW": one goes on where the last ended, over all n times. */
    private static void seedsGoOnFromDrawToDraw() {
        for (int n : new int[] {1, 2, 59, 60}) {
            seedsAsJudged("y5;p009999;p009999;p009999;p009999;p009999;p009999;p009999;", n);
        }
    }

    /** "if no two are one": with fewer PEOPLE than YARDS that can't be. */
    private static void seedsOfNoTwoAlike() {
        for (int z : ZS) {
            due.is("seeds of one too few", Due.river("y3;p009999;p009999;").seeds(60, z), 0);
        }
        seedsAsJudged("y3;p009999;p009999;p009999;", 60);
    }

    /** "nobody is OVER": of who was drawn; the DRAWS are below all PEOPLE, who is OVER, too. */
    private static void seedsLessWhoIsOver() {
        OverByTheHand x = Due.river("y1;c0;p009999;p009999;p009999;i00;");
        int of0 = onlyOneStands(3, 0).seeds(60, 5);
        int of1 = onlyOneStands(3, 1).seeds(60, 5);
        int of2 = onlyOneStands(3, 2).seeds(60, 5);
        due.is("seeds(60, 5) of all", x.seeds(60, 5), 60);
        due.is("the sum of each", of0 + of1 + of2, 60);
        x.cross(1);
        due.is("seeds(60, 5) less one", x.seeds(60, 5), 60 - of1);
        x.cross(2);
        due.is("seeds(60, 5) less two", x.seeds(60, 5), of0);
        x.out();
        due.is("seeds(60, 5) of all again", x.seeds(60, 5), 60);
    }

    /** "and it STANDS": DEPTH, LOAD, a GRUDGE. */
    private static void seedsThatDoNotStand() {
        seedsAsJudged("y2;d092;p009999;p008999;p009999;", 60);
        seedsAsJudged("y2;p009199;p009299;p009999;", 60);
        seedsAsJudged("y2;p009999;p009999;p009999;g01;g12;", 60);
        OverByTheHand x = Due.river("y1;c9;p00990;");
        due.is("seeds(60, 1) of who LASTS 0", x.seeds(60, 1), 60);
    }
}
