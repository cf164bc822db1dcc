/** Promises 15 to 21: chains, longest, makeUp, worth, change, flood, overs. */
public final class MindTest {
    private static final Due due = new Due("MindTest");

    public static void main(String[] args) {
        chains();
        longest();
        makeUp();
        worth();
        change();
        flood();
        overs();
        due.end();
    }

    private static void chains() {
        OverByTheHand x = Due.river("y5;p009999;p009999;p009999;p009999;p009999;p009999;p009999;");
        due.is("chains() of 5 out of 7", x.chains(), 2520);
        x.quarrel(0, 1, 1);
        // 2520 less those with 0 and 1 side by side: 4 places, 2 orders, 5 * 4 * 3 others
        due.is("chains() with a GRUDGE", x.chains(), 2040);
        Due.tell(x, "y1;d099;i02;");
        due.is("chains() of one YARD, who is in the water too", x.chains(), 7);
        x.cross(3);
        due.is("chains() of who is not OVER", x.chains(), 6);
        OverByTheHand y = Due.river("y2;d032;d152;p002910;p003910;p005910;p009110;p009210;");
        // YARD 0 wants 3 of HEIGHT: 1 2 4; YARD 1 wants 5: 2 4; both 2 of STRENGTH: not 3
        due.is("chains()", y.chains(), 4);
        Due.tell(y, "y5;");
        due.is("chains() of too few who hold", y.chains(), 0);
    }

    private static void longestIs(OverByTheHand x, int minutes, int... who) {
        due.is("longest(-1)", x.longest(-1), minutes);
        for (int k = 0; k < who.length; k++) {
            due.is("longest(" + k + ")", x.longest(k), who[k]);
        }
        due.is("longest(" + who.length + ")", x.longest(who.length), -1);
        due.is("longest(-2)", x.longest(-2), -1);
    }

    private static void longest() {
        OverByTheHand x = Due.river("y2;c1;p009920;p009940;p009950;p009941;p209999;");
        // minutes 10 20 25 20 24
        longestIs(x, 24, 2, 4);
        x.quarrel(2, 4, 1);
        longestIs(x, 20, 1, 2);
        x.quarrel(1, 2, 1);
        longestIs(x, 20, 1, 3);
        x.put(0, 1);
        longestIs(x, 20, 1, 3);
        x.put(1, 3);
        x.cross(4);
        // 1 and 3 have 19 left
        longestIs(x, 19, 1, 3);
        x.cross(0);
        x.quarrel(1, 3, 1);
        longestIs(x, 18, 2, 3);
        x.quarrel(2, 3, 1);
        longestIs(x, -9, -9, -9);
        OverByTheHand cold = Due.river("y1;p00990;p00990;d080;");
        longestIs(cold, 0, 0);
    }

    private static void makeUp() {
        OverByTheHand x = Due.river("y3;p009999;p009999;p009999;");
        due.is("makeUp()", x.makeUp(), 0);
        x.quarrel(0, 1, 1);
        due.is("makeUp()", x.makeUp(), 0);
        x.quarrel(0, 2, 1);
        due.is("makeUp()", x.makeUp(), 1);
        x.quarrel(1, 2, 1);
        due.is("makeUp()", x.makeUp(), 2);
        due.is("nothing is made up", x.count(6), 3);
        Due.tell(x, "p009999;");
        due.is("makeUp() with a fourth", x.makeUp(), 0);
        Due.tell(x, "y1;i03;");
        x.cross(0);
        Due.tell(x, "y3;");
        due.is("makeUp() of who is not OVER", x.makeUp(), 0);
        x.quarrel(1, 3, 1);
        due.is("makeUp() of who is not OVER", x.makeUp(), 1);
        Due.tell(x, "y4;");
        due.is("makeUp() of too few", x.makeUp(), -9);
        Due.tell(x, "y3;d292;");
        due.is("makeUp()", x.makeUp(), 1);
        Due.tell(x, "y3;d299;d199;d099;");
        due.is("makeUp()", x.makeUp(), 1);
        Due.tell(x, "p20000;y1;d030;");
        due.is("makeUp() of one YARD", x.makeUp(), 0);
    }

    private static void worth() {
        OverByTheHand x = Due.river("y2;c0;p009910;p009930;p009950;g12;g01;");
        // minutes 10 30 50; now only 0 with 2
        due.is("worth(1, 2)", x.worth(1, 2), 20);
        due.is("worth(2, 1)", x.worth(2, 1), 20);
        due.is("worth(0, 1)", x.worth(0, 1), 0);
        due.is("worth(0, 2) without a GRUDGE", x.worth(0, 2), -3);
        due.is("worth(1, 1)", x.worth(1, 1), -1);
        due.is("worth(1, 3)", x.worth(1, 3), -1);
        due.is("worth(-1, 1)", x.worth(-1, 1), -1);
        due.is("the GRUDGE stays", x.grudge(1, 2), 1);
        x.quarrel(0, 2, 1);
        due.is("worth(1, 2) where none STANDS", x.worth(1, 2), 30);
        due.is("worth(0, 1) where none STANDS", x.worth(0, 1), 10);
        Due.tell(x, "y3;");
        due.is("worth(0, 1) where none STANDS then", x.worth(0, 1), 0);
    }

    private static void change() {
        OverByTheHand x = Due.river("y2;c0;p009910;p009920;p009930;p009930;p009915;");
        due.is("change() of an empty water", x.change(), -9);
        x.put(0, 0);
        due.is("change() with an empty YARD", x.change(), -9);
        x.put(1, 1);
        // lasts 10; YARD 0: 2 or 3 make it 20, 4 makes it 15
        due.is("change()", x.change(), 2);
        x.put(0, 2);
        // lasts 20; YARD 1: 3 makes it 30
        due.is("change()", x.change(), 13);
        x.quarrel(2, 3, 1);
        due.is("change() by nobody", x.change(), -9);
        x.put(1, 3);
        // does not STAND: YARD 0 by 1 lasts 20, YARD 1 by 1 lasts 20
        due.is("change() of what does not STAND", x.change(), 1);
        x.quarrel(1, 3, 1);
        due.is("change() of what does not STAND", x.change(), 11);
        due.is("nothing changed", x.yard(1, 2), 3);
        OverByTheHand cold = Due.river("y2;c9;p009999;p009999;p00999;g01;i00;i11;");
        due.is("change() that would not last a minute", cold.change(), -9);
        OverByTheHand minute = Due.river("y2;c9;p009999;p009999;p009910;g01;i00;i11;");
        due.is("change() that would last a minute", minute.change(), 2);
        OverByTheHand first = Due.river("y2;c0;p009950;p009910;p009930;i01;i12;");
        due.is("change() by the first of all", first.change(), 0);
        OverByTheHand full = Due.river("y5;c0;" + "p009950;".repeat(4) + "p009910;p009960;p009970;", "i00;i11;i22;i33;i44;");
        due.is("change() of five YARDS and seven", full.change(), 45);
        full.quarrel(3, 5, 1);
        due.is("change() of five YARDS and seven", full.change(), 46);
        OverByTheHand over = Due.river("y1;c0;p009910;p009920;p009930;i00;");
        over.cross(2);
        due.is("change() by who is not OVER", over.change(), 1);
        over.cross(1);
        due.is("change() by nobody", over.change(), -9);
    }

    private static void flood() {
        OverByTheHand x = Due.river("y2;d032;d152;p008999;p109999;p309999;p309999;p007999;");
        due.is("flood() of none", x.flood(), -9);
        x.put(0, 0);
        due.is("flood() of half", x.flood(), -9);
        x.put(1, 1);
        due.is("flood()", x.flood(), 5);
        x.put(1, 0);
        x.put(0, 1);
        due.is("flood()", x.flood(), 3);
        x.put(0, 2);
        x.put(1, 3);
        due.is("flood() of SWIMMERS", x.flood(), 9);
        Due.tell(x, "y1;d070;i04;");
        due.is("flood()", x.flood(), 0);
        Due.tell(x, "d080;");
        due.is("flood()", x.flood(), -9);
        Due.tell(x, "y2;i00;i11;g01;");
        due.is("flood() with a GRUDGE", x.flood(), -9);
    }

    private static void overs() {
        OverByTheHand x = Due.river("y1;c1;p009907;p009999;p009999;p009999;p009999;i00;");
        due.is("overs() as long as it LASTS", x.overs(), 3);
        x.cold(0);
        due.is("overs() of those on the near bank", x.overs(), 4);
        x.cross(1);
        due.is("overs() of who is not OVER", x.overs(), 3);
        x.cold(9);
        due.is("overs() of what lasts no minute", x.overs(), 0);
        due.is("nobody went", x.count(5), 1);
        x.out();
        due.is("overs() without a CHAIN", x.overs(), 0);
    }
}
