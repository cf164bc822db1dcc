/** Promises 4 to 10 and 29 to 31: yard, person, grudge, quarrel, cold, put, out, image, restore, count. */
public final class StateTest {
    private static final Due due = new Due("StateTest");

    public static void main(String[] args) {
        yard();
        person();
        cools();
        grudges();
        cold();
        put();
        out();
        image();
        count();
        due.end();
    }

    private static void yard() {
        OverByTheHand x = Due.river("d179;p00000;i10;");
        due.is("yard(1, 0)", x.yard(1, 0), 7);
        due.is("yard(1, 1)", x.yard(1, 1), 9);
        due.is("yard(1, 2)", x.yard(1, 2), 0);
        due.is("yard(2, 2)", x.yard(2, 2), -9);
        due.is("yard(-1, 0)", x.yard(-1, 0), -1);
        due.is("yard(3, 9)", x.yard(3, 9), -1);
        due.is("yard(0, 3)", x.yard(0, 3), -2);
        due.is("yard(0, -1)", x.yard(0, -1), -2);
    }

    /** Each row: KIND, FIGURE, HEIGHT, STRENGTH, what he REACHES, HOLDS. */
    private static void person() {
        int[][] rows = {
            {0, 4, 7, 5, 7, 5}, {1, 4, 7, 5, 9, 5}, {2, 4, 7, 5, 3, 3}, {2, 4, 0, 1, 0, 0}, {2, 4, 9, 2, 4, 0},
            {3, 4, 0, 5, 99, 2}, {3, 4, 9, 9, 99, 4}, {4, 4, 7, 5, 9, 9}, {5, 9, 9, 9, 11, 18}, {5, 0, 0, 0, 2, 0}};
        for (int[] row : rows) {
            String letters = "p" + row[0] + row[1] + row[2] + row[3] + "77;";
            OverByTheHand x = Due.river(letters);
            for (int what = 0; what < 4; what++) {
                due.is(letters + " person(0, " + what + ")", x.person(0, what), row[what]);
            }
            due.is(letters + " WARMTH", x.person(0, 4), 77);
            due.is(letters + " REACHES", x.person(0, 5), row[4]);
            due.is(letters + " HOLDS", x.person(0, 6), row[5]);
            due.is(letters + " where", x.person(0, 8), -9);
        }
        OverByTheHand x = Due.river("y5;p000000;p009999;i41;");
        due.is("person(1, 8)", x.person(1, 8), 4);
        due.is("person(2, 0)", x.person(2, 0), -1);
        due.is("person(-1, 9)", x.person(-1, 9), -1);
        due.is("person(0, 9)", x.person(0, 9), -2);
        due.is("person(0, -1)", x.person(0, -1), -2);
    }

    private static void cools() {
        OverByTheHand x = Due.river("p00000;p10000;p20000;p30000;p40000;p50000;");
        int[][] due0And1And9 = {{0, 1, 1, 2, 1, 1, 1}, {1, 2, 2, 4, 2, 1, 1}, {9, 10, 10, 20, 10, 9, 1}};
        for (int[] row : due0And1And9) {
            x.cold(row[0]);
            for (int p = 0; p < 6; p++) {
                due.is("COOLS of KIND " + p + " in COLD " + row[0], x.person(p, 7), row[p + 1]);
            }
        }
    }

    private static void grudges() {
        OverByTheHand x = Due.river("p00000;p00000;p00000;");
        due.is("grudge(0, 1)", x.grudge(0, 1), 0);
        due.is("quarrel(2, 0, 1)", x.quarrel(2, 0, 1), 0);
        due.is("quarrel(0, 2, 1)", x.quarrel(0, 2, 1), 1);
        due.is("grudge(0, 2)", x.grudge(0, 2), 1);
        due.is("grudge(2, 0)", x.grudge(2, 0), 1);
        due.is("grudge(0, 1)", x.grudge(0, 1), 0);
        due.is("grudge(1, 2)", x.grudge(1, 2), 0);
        due.is("count(6)", x.count(6), 1);
        due.is("quarrel(1, 2, 1)", x.quarrel(1, 2, 1), 0);
        due.is("count(6)", x.count(6), 2);
        due.is("quarrel(0, 2, 0)", x.quarrel(0, 2, 0), 1);
        due.is("quarrel(0, 2, 0)", x.quarrel(0, 2, 0), 0);
        due.is("grudge(2, 0)", x.grudge(2, 0), 0);
        due.is("grudge(2, 1)", x.grudge(2, 1), 1);
        due.is("grudge(1, 1)", x.grudge(1, 1), -1);
        due.is("grudge(0, 3)", x.grudge(0, 3), -1);
        due.is("grudge(-1, 0)", x.grudge(-1, 0), -1);
        due.is("quarrel(0, 3, 2)", x.quarrel(0, 3, 2), -1);
        due.is("quarrel(0, 0, 1)", x.quarrel(0, 0, 1), -1);
        due.is("quarrel(0, 1, 2)", x.quarrel(0, 1, 2), -2);
        due.is("quarrel(0, 1, -1)", x.quarrel(0, 1, -1), -2);
        due.is("count(6)", x.count(6), 1);
    }

    private static void cold() {
        OverByTheHand x = new OverByTheHand();
        due.is("cold(0)", x.cold(0), 1);
        due.is("cold(9)", x.cold(9), 0);
        due.is("cold(10)", x.cold(10), -6);
        due.is("cold(-1)", x.cold(-1), -4);
        due.is("cold(3)", x.cold(3), 9);
    }

    private static void put() {
        OverByTheHand x = Due.river("y2;p009999;p009999;p009999;");
        due.is("put(0, 1)", x.put(0, 1), -9);
        due.is("put(0, 1) again", x.put(0, 1), 1);
        due.is("he is there yet", x.yard(0, 2), 1);
        due.is("put(0, 2)", x.put(0, 2), 1);
        due.is("who was there", x.person(1, 8), -9);
        due.is("put(1, 2)", x.put(1, 2), -9);
        due.is("where he was", x.yard(0, 2), -9);
        due.is("put(2, 0)", x.put(2, 0), -1);
        due.is("put(-1, 0)", x.put(-1, 0), -1);
        due.is("put(0, 3)", x.put(0, 3), -1);
        due.is("put(0, -1)", x.put(0, -1), -1);
        x.put(0, 1);
        due.is("cross(0)", x.cross(0), 1);
        due.is("put(0, 0) who is OVER", x.put(0, 0), -3);
        due.is("put(5, 0): the YARD first", x.put(5, 0), -1);
        due.is("nothing changed", x.yard(0, 2), 1);
    }

    private static void out() {
        OverByTheHand x = Due.river("y2;p009999;p009999;p009999;p009999;i01;i12;");
        x.cross(0);
        due.is("out()", x.out(), 3);
        due.is("in the water", x.count(4), 0);
        due.is("OVER", x.count(5), 0);
        due.is("who was OVER", x.person(0, 8), -9);
        due.is("WARMTH stays lost", x.person(1, 4), 97);
        due.is("HOURS stay", x.owes(0, 1), 1);
        due.is("MINUTE stays", x.count(3), 1);
        due.is("out() again", x.out(), 0);
        OverByTheHand full = fullRiver();
        full.cross(5);
        full.cross(6);
        due.is("out() of seven", full.out(), 7);
        due.is("out() again", full.out(), 0);
    }

    /** Seven people, five of them in as many YARDS. */
    private static OverByTheHand fullRiver() {
        return Due.river("y5;" + "p009999;".repeat(7), "i00;i11;i22;i33;i44;");
    }

    private static void image() {
        OverByTheHand x = Due.river("y2;p009999;p009999;p009999;g02;c2;d012;i01;i12;");
        due.is("restore() without one", x.restore(), -3);
        x.quarrel(0, 1, 0);
        x.cross(0);
        due.is("image()", x.image(), 1);
        String before = Due.look(x);
        Due.tell(x, "y5;p519977;p20001;g34;g01;c9;i02;");
        x.put(1, 1);
        x.row(1);
        x.row(2);
        x.feed('y');
        x.feed(-1);
        due.is("restore()", x.restore(), 1);
        due.is("letters stay", x.count(8), 1);
        due.is("the ROW stays", x.count(9), 2);
        due.is("REFUSALS stay", x.count(14), 1);
        due.is("REFUSALS stay", x.count(13), 1);
        x.river();
        x.judge();
        due.same("all that was", Due.look(x), before);
        x.out();
        due.is("put(0, 0)", x.put(0, 0), -9);
        due.is("restore() again", x.restore(), 1);
        due.same("all that was", Due.look(x), before);
        x.out();
        x.cold(0);
        due.is("image() anew", x.image(), 1);
        x.cold(5);
        x.restore();
        due.is("COLD of the newer one", x.count(2), 0);
        due.is("nobody is OVER in the newer one", x.count(5), 0);
        OverByTheHand late = Due.river("y1;p009999;p009999;p009999;i00;");
        late.image();
        late.cross(1);
        due.is("restore() answers its MINUTE", late.restore(), 0);
        due.is("HOURS of then", late.count(7), 0);
        due.is("WARMTH of then", late.person(0, 4), 99);
    }

    private static void count() {
        OverByTheHand x = Due.river("y4;p009999;p009999;p009999;p009999;p009999;c3;g01;g04;i00;i12;i21;");
        x.put(3, 3);
        x.cross(4);
        x.feed('y');
        x.row(6);
        int[] counts = {4, 5, 3, 1, 4, 1, 2, 4, 1, 1};
        for (int what = 0; what < counts.length; what++) {
            due.is("count(" + what + ")", x.count(what), counts[what]);
        }
        x.yard(9, 0);
        x.yard(0, 9);
        x.yard(0, 9);
        x.cross(4);
        x.cross(4);
        x.cross(4);
        for (int i = 0; i < 4; i++) {
            x.cold(-1);
        }
        for (int i = 0; i < 5; i++) {
            x.cold(10);
        }
        int[] refusals = {1, 2, 3, 4, 0, 5};
        for (int i = 0; i < refusals.length; i++) {
            due.is("count(" + (11 + i) + ")", x.count(11 + i), refusals[i]);
        }
        int[] others = {-1, 10, 17, 100, Integer.MIN_VALUE, Integer.MAX_VALUE};
        for (int what : others) {
            due.is("count(" + what + ")", x.count(what), -9);
        }
        due.is("which is no REFUSAL", x.count(12), 2);
        OverByTheHand full = fullRiver();
        for (int a = 0; a < 7; a++) {
            for (int b = 0; b < a; b++) {
                full.quarrel(a, b, 1);
            }
        }
        due.is("all GRUDGES of seven", full.count(6), 21);
        due.is("all of them in the water", full.count(4), 5);
    }
}
