/** Promises 25 to 28: wet, row, judge, seeds. */
public final class ToldTest {
    private static final Due due = new Due("ToldTest");

    public static void main(String[] args) {
        wet();
        row();
        judge();
        seeds();
        due.end();
    }

    private static void wet() {
        OverByTheHand x = Due.river("y3;d002;d142;d202;p002999;p003999;p009999;p009999;p009999;");
        // YARD 1 wants 4 of HEIGHT: 2, 3, 4
        due.is("wet(0 1 2)", x.wet(7, -1), 2);
        due.is("YARDS of 0", x.wet(7, 0), 5);
        due.is("YARDS of 2", x.wet(7, 2), 2);
        due.is("wet(0 2 3)", x.wet(13, -1), 4);
        due.is("YARDS of 2", x.wet(13, 2), 7);
        x.quarrel(0, 2, 1);
        due.is("wet(0 2 3)", x.wet(13, -1), 2);
        due.is("YARDS of 2", x.wet(13, 2), 5);
        due.is("YARDS of 3", x.wet(13, 3), 2);
        due.is("wet(0 1 2) where none STANDS", x.wet(7, -1), 0);
        due.is("YARDS of one where none STANDS", x.wet(7, 1), 0);
        due.is("wet of too few", x.wet(3, -1), 0);
        due.is("wet of too many", x.wet(31, -1), 0);
        due.is("YARDS of one of too many", x.wet(31, 4), 0);
        due.is("wet of none", x.wet(0, -1), 0);
        due.is("YARDS of one of none", x.wet(0, 0), -1);
        due.is("bits of nobody", x.wet(32 + 3, -1), -1);
        due.is("bits of nobody", x.wet(-1, -1), -1);
        due.is("bits of nobody", x.wet(Integer.MIN_VALUE + 7, -1), -1);
        due.is("not one of them", x.wet(13, 1), -1);
        due.is("not one of them", x.wet(13, 5), -1);
        due.is("not one of them", x.wet(13, 32), -1);
        due.is("not one of them", x.wet(13, -2), -1);
        Due.tell(x, "y1;i04;");
        x.cross(1);
        due.is("who is OVER", x.wet(2, -1), -1);
        due.is("who is in the water", x.wet(16, -1), 1);
        due.is("YARDS", x.wet(16, 4), 1);
    }

    private static void row() {
        OverByTheHand x = new OverByTheHand();
        due.is("row(-1)", x.row(-1), -4);
        due.is("row(7)", x.row(7), -6);
        due.is("count(9)", x.count(9), 0);
        int[] people = {6, 0, 6, 3, 1};
        for (int i = 0; i < people.length; i++) {
            due.is("row(" + people[i] + ")", x.row(people[i]), i + 1);
        }
        due.is("row(0), the sixth", x.row(0), -6);
        due.is("row(-1), the sixth", x.row(-1), -4);
        due.is("count(9)", x.count(9), 5);
        due.is("judge()", x.judge(), 0);
        due.is("count(9)", x.count(9), 0);
        due.is("row(0)", x.row(0), 1);
    }

    private static void judged(OverByTheHand x, int want, int... people) {
        StringBuilder told = new StringBuilder("judge() of");
        for (int person : people) {
            x.row(person);
            told.append(' ').append(person);
        }
        due.is(told.toString(), x.judge(), want);
        due.is("count(9)", x.count(9), 0);
    }

    private static void judge() {
        OverByTheHand x = Due.river("y3;d032;d142;d202;p002999;p003999;p009999;p009999;p009199;g23;i01;");
        judged(x, -9, 1, 2, 0);
        judged(x, 0, 0, 2, 1);
        judged(x, 1, 1, 0, 2);
        judged(x, 2, 1, 2, 3);
        judged(x, 1, 3, 2, 1);
        judged(x, 0, 4, 2, 1);
        judged(x, 2, 1, 2, 4);
        judged(x, 0);
        judged(x, 1, 1);
        judged(x, 2, 1, 2);
        judged(x, 3, 1, 2, 0, 3);
        judged(x, 3, 1, 2, 0, 0, 0);
        judged(x, 2, 1, 2, 3, 4);
        judged(x, 1, 2, 2, 0);
        judged(x, 2, 1, 2, 1);
        judged(x, 1, 1, 5, 0);
        judged(x, 0, 6, 2, 0);
        Due.tell(x, "y1;i02;");
        x.cross(0);
        Due.tell(x, "y3;d032;d142;d202;");
        judged(x, 2, 1, 2, 0);
        x.quarrel(2, 3, 0);
        judged(x, -9, 1, 2, 3);
    }

    private static void seeds() {
        OverByTheHand x = new OverByTheHand();
        due.is("seeds(0, 1)", x.seeds(0, 1), -4);
        due.is("seeds(61, 1)", x.seeds(61, 1), -6);
        due.is("seeds(60, 1) of no PEOPLE", x.seeds(60, 1), -3);
        Due.tell(x, "p009999;p009999;p009999;p009999;p009999;");
        int[][] rows = {{60, 1, 24}, {60, -1, 29}, {60, Integer.MAX_VALUE, 29}, {1, 7, 1}, {1, 4, 0},
            {17, Integer.MIN_VALUE, 8}, {60, 0, 32}};
        for (int[] row : rows) {
            due.is("seeds(" + row[0] + ", " + row[1] + ")", x.seeds(row[0], row[1]), row[2]);
        }
        x.quarrel(0, 1, 1);
        seedsAre(x, "with a GRUDGE", 18, 25, 22);
        x.quarrel(0, 1, 0);
        Due.tell(x, "y1;i00;");
        x.cross(4);
        Due.tell(x, "y3;");
        seedsAre(x, "less who is OVER", 10, 12, 8);
        OverByTheHand deep = Due.river("d162;p009999;p009999;p005999;p009999;p009999;");
        seedsAre(deep, "less who does not reach", 21, 25, 22);
        OverByTheHand one = Due.river("y1;p009999;");
        seedsAre(one, "of one", 60, 60, 60);
        OverByTheHand two = Due.river("y3;p009999;p009999;");
        seedsAre(two, "of too few", 0, 0, 0);
        due.is("seeds(0, 1)", one.seeds(0, 1), -4);
        due.is("seeds(-5, 1)", one.seeds(-5, 1), -4);
        due.is("seeds(61, 1)", one.seeds(61, 1), -6);
    }

    private static void seedsAre(OverByTheHand x, String how, int of1, int ofLess1, int of12345) {
        due.is("seeds(60, 1) " + how, x.seeds(60, 1), of1);
        due.is("seeds(60, -1) " + how, x.seeds(60, -1), ofLess1);
        due.is("seeds(60, 12345) " + how, x.seeds(60, 12345), of12345);
    }
}
