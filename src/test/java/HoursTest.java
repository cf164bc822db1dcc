/** Promises 22 to 24: owes, owed, strike. */
public final class HoursTest {
    private static final Due due = new Due("HoursTest");
    private static final int OWED_REFUSED = 1000000001;

    public static void main(String[] args) {
        owes();
        owedRefused();
        strikeTwo();
        strikeThree();
        strikeInOrder();
        strikeAmongSeven();
        manyHours();
        due.end();
    }

    private static OverByTheHand people(int n) {
        return Due.river("y1;c0;" + "p509999;".repeat(n));
    }

    /** One crosses by another, some times over. */
    private static void owe(OverByTheHand x, int one, int other, int times) {
        for (int i = 0; i < times; i++) {
            x.put(0, other);
            x.cross(one);
            x.out();
        }
    }

    private static void owes() {
        OverByTheHand x = people(3);
        owe(x, 0, 1, 2);
        owe(x, 2, 1, 1);
        owe(x, 1, 0, 1);
        due.is("owes(0, 1)", x.owes(0, 1), 2);
        due.is("owes(1, 0)", x.owes(1, 0), 1);
        due.is("owes(2, 1)", x.owes(2, 1), 1);
        due.is("owes(0, 2)", x.owes(0, 2), 0);
        due.is("owes(0, 0)", x.owes(0, 0), -1);
        due.is("owes(0, 3)", x.owes(0, 3), -1);
        due.is("owes(-1, 0)", x.owes(-1, 0), -1);
        due.is("owed(0)", x.owed(0), -1);
        due.is("owed(1)", x.owed(1), 2);
        due.is("owed(2)", x.owed(2), -1);
        due.is("count(11)", x.count(11), 3);
        due.is("owed(3)", x.owed(3), OWED_REFUSED);
        due.is("owed(-1)", x.owed(-1), OWED_REFUSED);
        due.is("count(11)", x.count(11), 5);
        due.is("count(7)", x.count(7), 4);
    }

    private static void owedRefused() {
        OverByTheHand x = new OverByTheHand();
        int[] nobody = {0, -1, 6, 7, -9, Integer.MAX_VALUE, Integer.MIN_VALUE};
        for (int person : nobody) {
            due.is("owed(" + person + ") of no PEOPLE", x.owed(person), OWED_REFUSED);
        }
        due.is("count(11)", x.count(11), nobody.length);
        OverByTheHand one = people(1);
        due.is("owed(0) of one", one.owed(0), 0);
        due.is("owed(1) of one", one.owed(1), OWED_REFUSED);
        due.is("count(11)", one.count(11), 1);
    }

    private static void strikeTwo() {
        OverByTheHand x = people(4);
        due.is("strike() of none", x.strike(), 0);
        owe(x, 0, 1, 3);
        owe(x, 1, 2, 2);
        due.is("strike() of none", x.strike(), 0);
        owe(x, 1, 0, 1);
        owe(x, 3, 1, 1);
        owe(x, 1, 3, 4);
        due.is("strike()", x.strike(), 2);
        due.is("owes(0, 1)", x.owes(0, 1), 2);
        due.is("owes(1, 0)", x.owes(1, 0), 0);
        due.is("owes(1, 3)", x.owes(1, 3), 3);
        due.is("owes(3, 1)", x.owes(3, 1), 0);
        due.is("owes(1, 2)", x.owes(1, 2), 2);
        due.is("strike() again", x.strike(), 0);
    }

    private static void strikeThree() {
        OverByTheHand x = people(5);
        // a ring of four is none
        owe(x, 0, 1, 1);
        owe(x, 1, 2, 1);
        owe(x, 2, 3, 1);
        owe(x, 3, 0, 1);
        due.is("strike() of four", x.strike(), 0);
        owe(x, 4, 2, 3);
        owe(x, 2, 1, 2);
        owe(x, 1, 4, 4);
        // 1 owes 2 and 2 owes 1: one of two; then 1 4 2 with 4, 3, 1
        due.is("strike()", x.strike(), 2);
        due.is("owes(1, 2)", x.owes(1, 2), 0);
        due.is("owes(2, 1)", x.owes(2, 1), 0);
        due.is("owes(1, 4)", x.owes(1, 4), 3);
        due.is("owes(4, 2)", x.owes(4, 2), 2);
        due.is("count(7)", x.count(7), 8);
    }

    private static void strikeInOrder() {
        // rings 0 1 2 and 0 1 3 share what 0 owes 1: the first takes it
        OverByTheHand x = people(4);
        owe(x, 0, 1, 1);
        owe(x, 1, 2, 1);
        owe(x, 2, 0, 1);
        owe(x, 1, 3, 1);
        owe(x, 3, 0, 1);
        due.is("strike()", x.strike(), 1);
        due.is("owes(1, 2)", x.owes(1, 2), 0);
        due.is("owes(1, 3)", x.owes(1, 3), 1);
        // rings 0 2 1 and 1 3 2 share what 2 owes 1: the first takes its part, the second what is left
        OverByTheHand y = people(4);
        owe(y, 0, 2, 1);
        owe(y, 2, 1, 2);
        owe(y, 1, 0, 2);
        owe(y, 1, 3, 2);
        owe(y, 3, 2, 2);
        due.is("strike()", y.strike(), 2);
        due.is("owes(0, 2)", y.owes(0, 2), 0);
        due.is("owes(1, 0)", y.owes(1, 0), 1);
        due.is("owes(2, 1)", y.owes(2, 1), 0);
        due.is("owes(1, 3)", y.owes(1, 3), 1);
        // a ring of two that comes later than one of three is struck ahead of it
        OverByTheHand z = people(3);
        owe(z, 0, 1, 1);
        owe(z, 1, 2, 1);
        owe(z, 2, 0, 1);
        owe(z, 2, 1, 1);
        due.is("strike()", z.strike(), 1);
        due.is("owes(0, 1)", z.owes(0, 1), 1);
        due.is("owes(2, 0)", z.owes(2, 0), 1);
        due.is("owes(1, 2)", z.owes(1, 2), 0);
    }

    private static void strikeAmongSeven() {
        OverByTheHand x = people(7);
        owe(x, 4, 6, 1);
        owe(x, 6, 5, 1);
        owe(x, 5, 4, 1);
        owe(x, 5, 6, 1);
        owe(x, 6, 5, 2);
        owe(x, 0, 6, 1);
        due.is("owed(6)", x.owed(6), 0);
        due.is("owed(5)", x.owed(5), 1);
        due.is("owed(0)", x.owed(0), -1);
        due.is("strike()", x.strike(), 2);
        due.is("owes(6, 5)", x.owes(6, 5), 1);
        due.is("owes(5, 4)", x.owes(5, 4), 0);
        due.is("count(7)", x.count(7), 2);
    }

    private static void manyHours() {
        OverByTheHand x = people(2);
        owe(x, 0, 1, 99);
        due.is("owes(0, 1)", x.owes(0, 1), 99);
        due.is("WARMTH", x.person(1, 4), 0);
        owe(x, 0, 1, 1);
        due.is("owes(0, 1)", x.owes(0, 1), 99);
        due.is("owed(0)", x.owed(0), -99);
        due.is("owed(1)", x.owed(1), 99);
        due.is("MINUTE", x.count(3), 99);
    }
}
