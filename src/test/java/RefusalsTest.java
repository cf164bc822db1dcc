import java.util.function.IntSupplier;

/** The REFUSALS of every call: the number, the first that fits, and that nothing changes but how many there were. */
public final class RefusalsTest {
    private static final Due due = new Due("RefusalsTest");
    private static final int LEAST = Integer.MIN_VALUE;
    private static final int GREATEST = Integer.MAX_VALUE;

    public static void main(String[] args) {
        OverByTheHand x = Due.river("y2;c2;p009960;p119950;p509955;p009944;p309933;g03;d112;", "i01;i12;");
        x.cross(0);
        x.image();
        String kept = Due.look(x);
        x.cross(3);
        x.quarrel(1, 4, 1);
        x.feed('y');
        x.row(2);
        x.row(1);
        ofState(x);
        ofChains(x);
        ofMind(x);
        ofTold(x);
        due.is("what was fed stays", x.feed('2'), 2);
        due.is("what was fed stays", x.river(), -1002);
        due.is("the ROW stays", x.judge(), -9);
        x.restore();
        due.same("THE IMAGE", Due.look(x), kept);
        due.end();
    }

    private static void refused(OverByTheHand x, String call, int want, IntSupplier asks) {
        refused(x, call, want, want, asks);
    }

    private static void refused(OverByTheHand x, String call, int number, int want, IntSupplier asks) {
        String before = Due.look(x);
        int[] counts = refusals(x);
        due.is(call, asks.getAsInt(), want);
        counts[-number]++;
        int[] then = refusals(x);
        for (int i = 1; i <= 6; i++) {
            due.is("count(" + (10 + i) + ") behind " + call, then[i], counts[i]);
        }
        due.same("all, behind " + call, Due.look(x), before);
    }

    private static int[] refusals(OverByTheHand x) {
        int[] counts = new int[7];
        for (int i = 1; i <= 6; i++) {
            counts[i] = x.count(10 + i);
        }
        return counts;
    }

    private static void ofState(OverByTheHand x) {
        refused(x, "feed(-1)", -4, () -> x.feed(-1));
        refused(x, "feed(256)", -6, () -> x.feed(256));
        refused(x, "feed(least)", -4, () -> x.feed(LEAST));
        refused(x, "feed(greatest)", -6, () -> x.feed(GREATEST));
        for (int wrong : new int[] {-1, 2, 5, LEAST, GREATEST}) {
            refused(x, "yard(" + wrong + ", 0)", -1, () -> x.yard(wrong, 0));
            refused(x, "yard(" + wrong + ", 3)", -1, () -> x.yard(wrong, 3));
            refused(x, "put(" + wrong + ", 1)", -1, () -> x.put(wrong, 1));
            refused(x, "put(" + wrong + ", 0), who is OVER", -1, () -> x.put(wrong, 0));
        }
        for (int wrong : new int[] {-1, 5, 7, LEAST, GREATEST}) {
            refused(x, "person(" + wrong + ", 0)", -1, () -> x.person(wrong, 0));
            refused(x, "person(" + wrong + ", 9)", -1, () -> x.person(wrong, 9));
            refused(x, "grudge(0, " + wrong + ")", -1, () -> x.grudge(0, wrong));
            refused(x, "grudge(" + wrong + ", 0)", -1, () -> x.grudge(wrong, 0));
            refused(x, "grudge(" + wrong + ", " + wrong + ")", -1, () -> x.grudge(wrong, wrong));
            refused(x, "quarrel(0, " + wrong + ", 1)", -1, () -> x.quarrel(0, wrong, 1));
            refused(x, "quarrel(" + wrong + ", 0, 2)", -1, () -> x.quarrel(wrong, 0, 2));
            refused(x, "put(0, " + wrong + ")", -1, () -> x.put(0, wrong));
        }
        for (int wrong : new int[] {-1, 9, LEAST, GREATEST}) {
            refused(x, "yard(0, " + wrong + ")", -2, () -> x.yard(0, wrong));
            refused(x, "person(0, " + wrong + ")", -2, () -> x.person(0, wrong));
            refused(x, "quarrel(0, 1, " + wrong + ")", -2, () -> x.quarrel(0, 1, wrong));
        }
        refused(x, "grudge(2, 2)", -1, () -> x.grudge(2, 2));
        refused(x, "quarrel(2, 2, 1)", -1, () -> x.quarrel(2, 2, 1));
        refused(x, "quarrel(0, 1, 2)", -2, () -> x.quarrel(0, 1, 2));
        refused(x, "cold(-1)", -4, () -> x.cold(-1));
        refused(x, "cold(10)", -6, () -> x.cold(10));
        refused(x, "put(0, 0)", -3, () -> x.put(0, 0));
        OverByTheHand fresh = new OverByTheHand();
        refused(fresh, "restore()", -3, fresh::restore);
    }

    private static void ofChains(OverByTheHand x) {
        for (int wrong : new int[] {-1, 3, LEAST, GREATEST}) {
            refused(x, "load(" + wrong + ")", -1, () -> x.load(wrong));
        }
        for (int wrong : new int[] {-1, 2, LEAST, GREATEST}) {
            refused(x, "slips(" + wrong + ")", -2, () -> x.slips(wrong));
        }
        for (int wrong : new int[] {-1, 5, LEAST, GREATEST}) {
            refused(x, "cross(" + wrong + ")", -1, () -> x.cross(wrong));
        }
        refused(x, "cross(0), who is OVER", -3, () -> x.cross(0));
        refused(x, "cross(1), who is in the water", -3, () -> x.cross(1));
        x.quarrel(1, 2, 1);
        refused(x, "cross(4) by what does not STAND", -3, () -> x.cross(4));
        refused(x, "cross(5) by what does not STAND", -1, () -> x.cross(5));
        x.quarrel(1, 2, 0);
    }

    private static void ofMind(OverByTheHand x) {
        for (int wrong : new int[] {-2, 2, LEAST, GREATEST}) {
            refused(x, "longest(" + wrong + ")", -1, () -> x.longest(wrong));
        }
        for (int wrong : new int[] {-1, 5, 7, LEAST, GREATEST}) {
            refused(x, "worth(0, " + wrong + ")", -1, () -> x.worth(0, wrong));
            refused(x, "worth(" + wrong + ", 0)", -1, () -> x.worth(wrong, 0));
            refused(x, "owes(0, " + wrong + ")", -1, () -> x.owes(0, wrong));
            refused(x, "owes(" + wrong + ", 0)", -1, () -> x.owes(wrong, 0));
            refused(x, "owed(" + wrong + ")", -1, 1000000001, () -> x.owed(wrong));
        }
        refused(x, "worth(3, 3)", -1, () -> x.worth(3, 3));
        refused(x, "worth(1, 2)", -3, () -> x.worth(1, 2));
        refused(x, "owes(3, 3)", -1, () -> x.owes(3, 3));
    }

    private static void ofTold(OverByTheHand x) {
        // 0 and 3 are OVER
        for (int wrong : new int[] {1, 8, 9, 32, 64, 128, -1, LEAST, GREATEST}) {
            refused(x, "wet(" + wrong + ", -1)", -1, () -> x.wet(wrong, -1));
            refused(x, "wet(" + wrong + ", 0)", -1, () -> x.wet(wrong, 0));
        }
        for (int wrong : new int[] {-2, 0, 3, 4, 5, 33, LEAST, GREATEST}) {
            refused(x, "wet(6, " + wrong + ")", -1, () -> x.wet(6, wrong));
        }
        refused(x, "row(-1)", -4, () -> x.row(-1));
        refused(x, "row(7)", -6, () -> x.row(7));
        refused(x, "row(least)", -4, () -> x.row(LEAST));
        refused(x, "row(greatest)", -6, () -> x.row(GREATEST));
        refused(x, "seeds(0, 1)", -4, () -> x.seeds(0, 1));
        refused(x, "seeds(least, 1)", -4, () -> x.seeds(LEAST, 1));
        refused(x, "seeds(61, 1)", -6, () -> x.seeds(61, 1));
        refused(x, "seeds(greatest, 1)", -6, () -> x.seeds(GREATEST, 1));
        OverByTheHand fresh = new OverByTheHand();
        refused(fresh, "seeds(1, 1)", -3, () -> fresh.seeds(1, 1));
        refused(fresh, "seeds(61, 1)", -6, () -> fresh.seeds(61, 1));
        refused(fresh, "seeds(0, 1)", -4, () -> fresh.seeds(0, 1));
    }
}
