import java.util.function.Supplier;
import java.util.function.ToIntFunction;

/**
 * "REFUSALS (the call answers the number, the first that fits in the order in which it tells them; nothing changes but
 * how many there were)": each of every call, by the last value that is taken and the first that is not.
 */
public final class RefusalsTest {
    private static final Due due = new Due("RefusalsTest");
    private static final int LEAST = Integer.MIN_VALUE;
    private static final int GREATEST = Integer.MAX_VALUE;

    /** Behind the last of five people, and what would be one of them if it were cut to fewer bits. */
    private static final int[] NOBODY = {-1, 5, 6, 7, 32, 256, 613566757, LEAST, GREATEST};
    /** Behind the last of two yards. */
    private static final int[] NO_YARD = {-1, 2, 3, 5, 32, 256, LEAST, GREATEST};

    public static void main(String[] args) {
        ofLetters();
        ofYards();
        ofPersons();
        ofGrudges();
        ofCold();
        ofPut();
        ofHands();
        ofSlips();
        ofCross();
        ofCrossByNoChain();
        ofLongest();
        ofWorth();
        ofHours();
        ofWet();
        ofWetOver();
        ofRow();
        ofSeeds();
        ofRestore();
        ofWhatIsNeverRefused();
        due.end();
    }

    /** 0 is OVER, 1 and 2 are a CHAIN that STANDS, 3 and 4 are near; there are letters, a ROW, an image. */
    private static OverByTheHand scene() {
        OverByTheHand x = Due.river("y2;c2;p009960;p119950;p509955;p009944;p309933;g03;d112;i01;i12;");
        x.image();
        x.cross(0);
        x.quarrel(1, 4, 1);
        x.row(2);
        x.row(1);
        feed(x, "c7;");
        return x;
    }

    private static void feed(OverByTheHand x, String letters) {
        for (char c : letters.toCharArray()) {
            x.feed(c);
        }
    }

    private static void refused(String call, int number, ToIntFunction<OverByTheHand> asks) {
        refused(RefusalsTest::scene, call, number, number, asks);
    }

    /** Asks one of two that are the same; but for the REFUSAL they must be the same yet. */
    private static void refused(Supplier<OverByTheHand> scene, String call, int number, int want,
            ToIntFunction<OverByTheHand> asks) {
        OverByTheHand asked = scene.get();
        OverByTheHand other = scene.get();
        due.is(call, asks.applyAsInt(asked), want);
        int[] counts = Due.refusals(other);
        counts[-number]++;
        int[] then = Due.refusals(asked);
        for (int i = 1; i <= 6; i++) {
            due.is("count(" + (10 + i) + ") behind " + call, then[i], counts[i]);
        }
        due.same("all, behind " + call, Due.lookAtAll(asked), Due.lookAtAll(other));
    }

    /** feed: "-4; -6 (255; 80, too)." */
    private static void ofLetters() {
        for (int letter : new int[] {-1, -256, 'y' - 256, LEAST}) {
            refused("feed(" + letter + ")", -4, x -> x.feed(letter));
            refused(RefusalsTest::fullOfLetters, "feed(" + letter + ") as the 81st", -4, -4, x -> x.feed(letter));
        }
        for (int letter : new int[] {256, 'y' + 256, GREATEST}) {
            refused("feed(" + letter + ")", -6, x -> x.feed(letter));
            refused(RefusalsTest::fullOfLetters, "feed(" + letter + ") as the 81st", -6, -6, x -> x.feed(letter));
        }
        for (int letter : new int[] {0, 'y', 255}) {
            refused(RefusalsTest::fullOfLetters, "feed(" + letter + ") as the 81st", -6, -6, x -> x.feed(letter));
        }
    }

    private static OverByTheHand fullOfLetters() {
        OverByTheHand x = Due.river("p00999;");
        feed(x, "d045;".repeat(16));
        return x;
    }

    /** yard: "-1; -2." */
    private static void ofYards() {
        for (int yard : NO_YARD) {
            for (int what : new int[] {-1, 0, 2, 3}) {
                refused("yard(" + yard + ", " + what + ")", -1, x -> x.yard(yard, what));
            }
        }
        for (int what : new int[] {-1, 3, 256, LEAST, GREATEST}) {
            refused("yard(0, " + what + ")", -2, x -> x.yard(0, what));
            refused("yard(1, " + what + ")", -2, x -> x.yard(1, what));
        }
    }

    /** person: "-1; -2." */
    private static void ofPersons() {
        for (int person : NOBODY) {
            for (int what : new int[] {-1, 0, 8, 9}) {
                refused("person(" + person + ", " + what + ")", -1, x -> x.person(person, what));
            }
        }
        for (int what : new int[] {-1, 9, 256, LEAST, GREATEST}) {
            refused("person(0, " + what + ")", -2, x -> x.person(0, what));
            refused("person(4, " + what + ")", -2, x -> x.person(4, what));
        }
    }

    /** grudge: "-1 two."; quarrel: "-1 two; -2." */
    private static void ofGrudges() {
        for (int wrong : NOBODY) {
            refused("grudge(0, " + wrong + ")", -1, x -> x.grudge(0, wrong));
            refused("grudge(" + wrong + ", 4)", -1, x -> x.grudge(wrong, 4));
            refused("grudge(" + wrong + ", " + wrong + ")", -1, x -> x.grudge(wrong, wrong));
            for (int is : new int[] {-1, 0, 1, 2}) {
                refused("quarrel(0, " + wrong + ", " + is + ")", -1, x -> x.quarrel(0, wrong, is));
                refused("quarrel(" + wrong + ", 4, " + is + ")", -1, x -> x.quarrel(wrong, 4, is));
            }
        }
        for (int person = 0; person < 5; person++) {
            int twice = person;
            refused("grudge(" + twice + ", " + twice + ")", -1, x -> x.grudge(twice, twice));
            for (int is : new int[] {-1, 0, 1, 2}) {
                refused("quarrel(" + twice + ", " + twice + ", " + is + ")", -1, x -> x.quarrel(twice, twice, is));
            }
        }
        for (int is : new int[] {-1, 2, 256, LEAST, GREATEST}) {
            refused("quarrel(0, 3, " + is + ")", -2, x -> x.quarrel(0, 3, is));
            refused("quarrel(4, 3, " + is + ")", -2, x -> x.quarrel(4, 3, is));
        }
    }

    /** cold: "-4; -6 9." */
    private static void ofCold() {
        refused("cold(-1)", -4, x -> x.cold(-1));
        refused("cold(least)", -4, x -> x.cold(LEAST));
        refused("cold(10)", -6, x -> x.cold(10));
        refused("cold(256)", -6, x -> x.cold(256));
        refused("cold(greatest)", -6, x -> x.cold(GREATEST));
    }

    /** put: "-1 either; -3 he is OVER." */
    private static void ofPut() {
        for (int yard : NO_YARD) {
            refused("put(" + yard + ", 3)", -1, x -> x.put(yard, 3));
            refused("put(" + yard + ", 0), who is OVER", -1, x -> x.put(yard, 0));
            refused("put(" + yard + ", 5)", -1, x -> x.put(yard, 5));
        }
        for (int person : NOBODY) {
            refused("put(0, " + person + ")", -1, x -> x.put(0, person));
            refused("put(1, " + person + ")", -1, x -> x.put(1, person));
        }
        refused("put(0, 0), who is OVER", -3, x -> x.put(0, 0));
        refused("put(1, 0), who is OVER", -3, x -> x.put(1, 0));
    }

    /** load: "-1."; "HAND k (0 .. YARDS)". */
    private static void ofHands() {
        for (int hand : new int[] {-1, 3, 4, 6, 256, LEAST, GREATEST}) {
            refused("load(" + hand + ")", -1, x -> x.load(hand));
        }
    }

    /** slips: "-2." */
    private static void ofSlips() {
        for (int what : new int[] {-1, 2, 256, LEAST, GREATEST}) {
            refused("slips(" + what + ") of a CHAIN that STANDS", -2, x -> x.slips(what));
            refused(RefusalsTest::emptyWater, "slips(" + what + ") of none", -2, -2, x -> x.slips(what));
        }
    }

    private static OverByTheHand emptyWater() {
        OverByTheHand x = scene();
        x.out();
        return x;
    }

    /** cross: "-1; -3 he is not on the near bank, it can't be." */
    private static void ofCross() {
        for (int person : NOBODY) {
            refused("cross(" + person + ")", -1, x -> x.cross(person));
            refused(RefusalsTest::emptyWater, "cross(" + person + ") by none", -1, -1, x -> x.cross(person));
        }
        refused("cross(0), who is OVER", -3, x -> x.cross(0));
        refused("cross(1), who is in YARD 0", -3, x -> x.cross(1));
        refused("cross(2), who is in YARD 1", -3, x -> x.cross(2));
    }

    /** cross: "it can't be": no CHAIN, one that does not STAND, one that does not LAST 1. */
    private static void ofCrossByNoChain() {
        refused(RefusalsTest::emptyWater, "cross(3) by an empty water", -3, -3, x -> x.cross(3));
        refused(() -> {
            OverByTheHand x = scene();
            x.quarrel(1, 2, 1);
            return x;
        }, "cross(3) by two with a GRUDGE", -3, -3, x -> x.cross(3));
        refused(() -> {
            OverByTheHand x = emptyWater();
            x.put(1, 1);
            return x;
        }, "cross(3) with an empty YARD", -3, -3, x -> x.cross(3));
        refused(() -> Due.river("y1;p00991;p00999;p00990;i00;"), "cross(1) by who LASTS 0", -3, -3, x -> x.cross(1));
    }

    /** longest: "-1."; yard -1 is no REFUSAL, the refusal goes ahead of "-9 none STANDS". */
    private static void ofLongest() {
        for (int yard : new int[] {-2, -9, 2, 3, 5, 256, LEAST, GREATEST}) {
            refused("longest(" + yard + ")", -1, x -> x.longest(yard));
            refused(() -> Due.river("y2;p00999;"), "longest(" + yard + ") of none", -1, -1, x -> x.longest(yard));
        }
    }

    /** worth: "-1 two; -3 they have no GRUDGE." */
    private static void ofWorth() {
        for (int wrong : NOBODY) {
            refused("worth(0, " + wrong + ")", -1, x -> x.worth(0, wrong));
            refused("worth(" + wrong + ", 4)", -1, x -> x.worth(wrong, 4));
            refused("worth(" + wrong + ", " + wrong + ")", -1, x -> x.worth(wrong, wrong));
        }
        for (int person = 0; person < 5; person++) {
            int twice = person;
            refused("worth(" + twice + ", " + twice + ")", -1, x -> x.worth(twice, twice));
        }
        refused("worth(0, 1), who have none", -3, x -> x.worth(0, 1));
        refused("worth(4, 3), who have none", -3, x -> x.worth(4, 3));
    }

    /** owes: "-1 two."; owed: "Refused as told: -1.", "Of owed() 1000000000 less them." */
    private static void ofHours() {
        for (int wrong : NOBODY) {
            refused("owes(0, " + wrong + ")", -1, x -> x.owes(0, wrong));
            refused("owes(" + wrong + ", 0)", -1, x -> x.owes(wrong, 0));
            refused("owes(" + wrong + ", " + wrong + ")", -1, x -> x.owes(wrong, wrong));
            refused(RefusalsTest::scene, "owed(" + wrong + ")", -1, 1000000001, x -> x.owed(wrong));
        }
        for (int person = 0; person < 5; person++) {
            int twice = person;
            refused("owes(" + twice + ", " + twice + ")", -1, x -> x.owes(twice, twice));
        }
        refused(OverByTheHand::new, "owed(0) of nobody", -1, 1000000001, x -> x.owed(0));
    }

    /** wet: "-1 (bits of nobody, ..; not one of them)." */
    private static void ofWet() {
        for (int people : new int[] {32, 64, 128, 256, 32 + 6, LEAST, LEAST + 6, -1, GREATEST}) {
            for (int person : new int[] {-2, -1, 1, 5}) {
                refused("wet(" + people + ", " + person + ")", -1, x -> x.wet(people, person));
            }
        }
        for (int person : new int[] {-2, -9, 3, 4, 5, 33, 34, 65, LEAST, LEAST + 1, GREATEST}) {
            refused("wet(6, " + person + ")", -1, x -> x.wet(6, person));
            refused("wet(2, " + person + ") of too few", -1, x -> x.wet(2, person));
        }
        for (int person = 0; person < 5; person++) {
            int none = person;
            refused("wet(0, " + none + ")", -1, x -> x.wet(0, none));
        }
        refused(OverByTheHand::new, "wet(1, -1) of nobody", -1, -1, x -> x.wet(1, -1));
        refused(OverByTheHand::new, "wet(0, 0) of nobody", -1, -1, x -> x.wet(0, 0));
    }

    /** wet: "-1 (.. of who is OVER ..)." */
    private static void ofWetOver() {
        refused("wet(1, -1), who is OVER", -1, x -> x.wet(1, -1));
        refused("wet(1, 0), who is OVER", -1, x -> x.wet(1, 0));
        refused("wet(3, -1), one of them is OVER", -1, x -> x.wet(3, -1));
        refused("wet(3, 1), another of them is OVER", -1, x -> x.wet(3, 1));
        refused("wet(31, -1), one of all is OVER", -1, x -> x.wet(31, -1));
        refused("wet(6, 0), who is OVER and not one of them", -1, x -> x.wet(6, 0));
    }

    /** row: "-4; -6 (6; 5, too)." */
    private static void ofRow() {
        for (int person : new int[] {-1, -9, LEAST}) {
            refused("row(" + person + ")", -4, x -> x.row(person));
            refused(RefusalsTest::fullRow, "row(" + person + ") as the sixth", -4, -4, x -> x.row(person));
        }
        for (int person : new int[] {7, 256, GREATEST}) {
            refused("row(" + person + ")", -6, x -> x.row(person));
            refused(RefusalsTest::fullRow, "row(" + person + ") as the sixth", -6, -6, x -> x.row(person));
        }
        for (int person : new int[] {0, 4, 6}) {
            refused(RefusalsTest::fullRow, "row(" + person + ") as the sixth", -6, -6, x -> x.row(person));
        }
    }

    private static OverByTheHand fullRow() {
        OverByTheHand x = Due.river("y5;d400;p00999;p00999;p00999;p00999;p00999;");
        for (int person = 0; person < 5; person++) {
            x.row(person);
        }
        return x;
    }

    /** seeds: "-4; -6 60; -3 there are no PEOPLE.": in this order. */
    private static void ofSeeds() {
        for (int n : new int[] {0, -1, LEAST}) {
            refused("seeds(" + n + ", 1)", -4, x -> x.seeds(n, 1));
            refused(OverByTheHand::new, "seeds(" + n + ", 1) of nobody", -4, -4, x -> x.seeds(n, 1));
        }
        for (int n : new int[] {61, 256, GREATEST}) {
            refused("seeds(" + n + ", 1)", -6, x -> x.seeds(n, 1));
            refused(OverByTheHand::new, "seeds(" + n + ", 1) of nobody", -6, -6, x -> x.seeds(n, 1));
        }
        for (int n : new int[] {1, 60}) {
            refused(OverByTheHand::new, "seeds(" + n + ", 1) of nobody", -3, -3, x -> x.seeds(n, 1));
        }
    }

    /** restore: "-3 there is none." */
    private static void ofRestore() {
        refused(OverByTheHand::new, "restore() of a new object", -3, -3, OverByTheHand::restore);
        refused(RefusalsTest::fullOfLetters, "restore() without an image", -3, -3, OverByTheHand::restore);
    }

    private static void notRefused(Supplier<OverByTheHand> scene, String call, int want,
            ToIntFunction<OverByTheHand> asks) {
        OverByTheHand x = scene.get();
        int[] before = Due.refusals(x);
        due.is(call, asks.applyAsInt(x), want);
        int[] then = Due.refusals(x);
        for (int i = 1; i <= 6; i++) {
            due.is("count(" + (10 + i) + ") behind " + call, then[i], before[i]);
        }
    }

    /** river: "the FAULT (nothing is counted)"; "-9" is an answer of its own; count: "-9 for another what." */
    private static void ofWhatIsNeverRefused() {
        Supplier<OverByTheHand> fresh = OverByTheHand::new;
        notRefused(fresh, "river() of no letters", -1000, OverByTheHand::river);
        notRefused(() -> {
            OverByTheHand x = new OverByTheHand();
            feed(x, "i00;");
            return x;
        }, "river() with nobody such", -2000, OverByTheHand::river);
        notRefused(fresh, "yard(0, 2)", -9, x -> x.yard(0, 2));
        notRefused(fresh, "lasts()", -9, OverByTheHand::lasts);
        notRefused(fresh, "longest(-1)", -9, x -> x.longest(-1));
        notRefused(fresh, "longest(2)", -9, x -> x.longest(2));
        notRefused(fresh, "makeUp()", -9, OverByTheHand::makeUp);
        notRefused(fresh, "change()", -9, OverByTheHand::change);
        notRefused(fresh, "flood()", -9, OverByTheHand::flood);
        notRefused(fresh, "judge()", 0, OverByTheHand::judge);
        notRefused(fresh, "wet(0, -1)", 0, x -> x.wet(0, -1));
        for (int what : new int[] {LEAST, -1, 10, 17, GREATEST}) {
            notRefused(fresh, "count(" + what + ")", -9, x -> x.count(what));
        }
        notRefused(RefusalsTest::scene, "owed(0)", -2, x -> x.owed(0));
        notRefused(RefusalsTest::scene, "slips(0)", -9, x -> x.slips(0));
        notRefused(RefusalsTest::scene, "judge()", -9, OverByTheHand::judge);
        notRefused(RefusalsTest::scene, "person(3, 8)", -9, x -> x.person(3, 8));
        notRefused(RefusalsTest::scene, "put(0, 3)", 1, x -> x.put(0, 3));
    }
}
