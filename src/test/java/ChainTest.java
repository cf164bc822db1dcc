/** Promises 11 to 14: load, slips, lasts, cross. */
public final class ChainTest {
    private static final Due due = new Due("ChainTest");

    public static void main(String[] args) {
        load();
        slips();
        slipsInOrder();
        lasts();
        cross();
        cannotCross();
        due.end();
    }

    private static void load() {
        OverByTheHand x = Due.river("y5;d021;d124;d229;d320;d423;");
        // PULL 1 4 9 0 3: on the sides 0|17, 1|16, 5|12, 14|3, 14|3, 17|0
        int[] loads = {0, 1, 5, 3, 3, 0};
        for (int hand = 0; hand < loads.length; hand++) {
            due.is("load(" + hand + ")", x.load(hand), loads[hand]);
        }
        due.is("load(6)", x.load(6), -1);
        due.is("load(-1)", x.load(-1), -1);
        OverByTheHand one = Due.river("y1;d029;");
        due.is("load(0) of one YARD", one.load(0), 0);
        due.is("load(1) of one YARD", one.load(1), 0);
        due.is("load(2) of one YARD", one.load(2), -1);
    }

    private static void slipsAre(OverByTheHand x, int yard, int why) {
        due.is("slips(0)", x.slips(0), yard);
        due.is("slips(1)", x.slips(1), why);
        due.is("lasts()", x.lasts() == -9 ? -9 : 0, yard == -9 ? 0 : -9);
    }

    private static void slips() {
        OverByTheHand x = Due.river("y3;d033;d144;d233;p003310;p003410;p004410;p002910;p009210;");
        // LOADS 0 3 3 0: each must hold 3
        slipsAre(x, 0, 0);
        x.put(0, 0);
        slipsAre(x, 1, 0);
        x.put(2, 2);
        slipsAre(x, 1, 0);
        x.put(1, 1);
        slipsAre(x, 1, 1);
        x.put(1, 2);
        slipsAre(x, 2, 0);
        x.put(2, 1);
        slipsAre(x, -9, -9);
        x.quarrel(0, 1, 1);
        slipsAre(x, -9, -9);
        x.quarrel(2, 0, 1);
        slipsAre(x, 1, 3);
        x.quarrel(0, 2, 0);
        x.quarrel(1, 2, 1);
        slipsAre(x, 2, 3);
        x.put(0, 3);
        slipsAre(x, 0, 1);
        x.put(0, 4);
        slipsAre(x, 0, 2);
        due.is("slips(2)", x.slips(2), -2);
        due.is("slips(-1)", x.slips(-1), -2);
    }

    private static void slipsInOrder() {
        // YARD 1 fails of DEPTH, of LOAD and of a GRUDGE at once; then of LOAD and GRUDGE; then of GRUDGE alone
        OverByTheHand x = Due.river("y2;d002;d192;p009910;p000010;g01;i00;i11;");
        slipsAre(x, 1, 1);
        Due.tell(x, "y2;d002;d102;i00;i11;");
        slipsAre(x, 1, 2);
        Due.tell(x, "y2;d000;d102;i00;i11;");
        slipsAre(x, 1, 3);
        x.quarrel(0, 1, 0);
        slipsAre(x, -9, -9);
        // PULL 1 1 9 9, LOADS 0 1 2 9 0: they must hold 1 2 9 9, YARDS 0 to 2 by the HAND behind, YARD 3 by the one ahead
        OverByTheHand y = Due.river("y4;d001;d101;d209;d309;p009110;p009210;p009910;p009910;p009110;", "i00;i11;i22;i33;");
        slipsAre(y, -9, -9);
        y.put(1, 4);
        slipsAre(y, 1, 2);
        y.put(1, 3);
        slipsAre(y, 3, 0);
        y.put(3, 1);
        slipsAre(y, 3, 2);
        y.put(2, 1);
        slipsAre(y, 2, 2);
    }

    private static void lasts() {
        OverByTheHand x = Due.river("y3;c2;p009929;p209920;p409919;p509905;p009999;i00;i11;i22;");
        // COOLS 3, 6, 2: 29 by 3, 20 by 6, 19 by 2
        due.is("lasts()", x.lasts(), 3);
        x.put(1, 3);
        due.is("lasts()", x.lasts(), 5);
        x.put(1, 4);
        due.is("lasts()", x.lasts(), 9);
        x.cold(9);
        due.is("lasts()", x.lasts(), 2);
        x.cold(0);
        due.is("lasts()", x.lasts(), 19);
        x.out();
        due.is("lasts()", x.lasts(), -9);
        OverByTheHand none = Due.river("y1;p00991;i00;");
        due.is("lasts() of one who is cold at once", none.lasts(), 0);
        due.is("it STANDS all the same", none.slips(0), -9);
    }

    private static void cross() {
        OverByTheHand x = Due.river("y2;c1;p009905;p209911;p009999;p009999;i00;i11;");
        due.is("lasts()", x.lasts(), 2);
        due.is("cross(3)", x.cross(3), 1);
        due.is("where he is", x.person(3, 8), 9);
        due.is("MINUTE", x.count(3), 1);
        due.is("WARMTH of a ONE", x.person(0, 4), 3);
        due.is("WARMTH of a SMALL", x.person(1, 4), 7);
        due.is("WARMTH of him", x.person(3, 4), 99);
        due.is("owes(3, 0)", x.owes(3, 0), 1);
        due.is("owes(3, 1)", x.owes(3, 1), 1);
        due.is("owes(0, 3)", x.owes(0, 3), 0);
        due.is("owes(3, 2)", x.owes(3, 2), 0);
        due.is("cross(3) again", x.cross(3), -3);
        due.is("cross(2)", x.cross(2), 2);
        due.is("lasts()", x.lasts(), 0);
        due.is("in the water", x.count(4), 2);
        x.out();
        x.put(1, 0);
        x.put(0, 1);
        due.is("cross(3) when all are cold", x.cross(3), -3);
        due.is("MINUTE", x.count(3), 2);
        OverByTheHand full = Due.river("y5;" + "p009999;".repeat(7), "i02;i13;i24;i35;i46;");
        due.is("cross(1) by five", full.cross(1), 1);
        due.is("cross(0) by five", full.cross(0), 2);
        for (int p = 2; p < 7; p++) {
            due.is("owes(0, " + p + ")", full.owes(0, p), 1);
            due.is("WARMTH of " + p, full.person(p, 4), 95);
        }
        due.is("all HOURS", full.count(7), 10);
    }

    private static void cannotCross() {
        OverByTheHand x = Due.river("y2;p009999;p009999;p009999;i00;");
        due.is("cross(2) by no CHAIN", x.cross(2), -3);
        x.put(1, 1);
        due.is("cross(3)", x.cross(3), -1);
        due.is("cross(-1)", x.cross(-1), -1);
        due.is("cross(0) who is in the water", x.cross(0), -3);
        x.quarrel(0, 1, 1);
        due.is("cross(2) by a CHAIN that does not STAND", x.cross(2), -3);
        due.is("WARMTH", x.person(0, 4), 99);
        due.is("HOURS", x.count(7), 0);
        due.is("MINUTE", x.count(3), 0);
        x.quarrel(0, 1, 0);
        due.is("cross(2)", x.cross(2), 1);
    }
}
