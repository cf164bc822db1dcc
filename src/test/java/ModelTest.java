import java.util.Random;

/** Runs of calls by fixed seeds on the class and on the model of it: every answer must be the same. */
public final class ModelTest {
    private static final Due due = new Due("ModelTest");
    private static final int RUNS = 300;
    private static final int CALLS = 512;
    private static final int[] STRANGE = {-1, -2, 7, 9, 10, 31, 32, 33, 255, 256, Integer.MIN_VALUE, Integer.MAX_VALUE};

    private final Random dice;
    private final OverByTheHand x = new OverByTheHand();
    private final Model m = new Model();
    private final int run;
    private int calls = 0;

    private ModelTest(int run) {
        this.run = run;
        dice = new Random(run);
    }

    public static void main(String[] args) {
        int[] kinds = new int[30];
        for (int run = 0; run < RUNS; run++) {
            new ModelTest(run).go(kinds);
        }
        for (int k = 0; k < kinds.length; k++) {
            due.is("whether call " + k + " was made often", kinds[k] > RUNS ? 1 : 0, 1);
        }
        due.end();
    }

    private void go(int[] kinds) {
        begin();
        while (calls < CALLS) {
            int kind = dice.nextInt(30);
            kinds[kind]++;
            call(kind);
        }
    }

    private void same(String call, int got, int want) {
        calls++;
        due.is("run " + run + ", call " + calls + ": " + call, got, want);
    }

    private int below(int n) {
        return dice.nextInt(n);
    }

    /** Mostly a number below n, at times a strange one. */
    private int some(int n) {
        return below(12) == 0 ? STRANGE[below(STRANGE.length)] : below(Math.max(1, n));
    }

    private int someone() {
        return some(m.count(1));
    }

    private int someYard() {
        return some(m.count(0));
    }

    private void tell(String letters) {
        for (char c : letters.toCharArray()) {
            same("feed(" + (int) c + ")", x.feed(c), m.feed(c));
        }
        same("river() of " + letters, x.river(), m.river());
    }

    private String onePerson() {
        return "p" + below(6) + below(5) + (3 + below(7)) + (3 + below(7)) + (below(6) == 0 ? below(10) : 30 + below(70)) + ";";
    }

    private void begin() {
        StringBuilder people = new StringBuilder("y" + (1 + below(5)) + ";");
        int n = below(8);
        for (int i = 0; i < n; i++) {
            people.append(onePerson());
        }
        tell(people.toString());
    }

    private String statement() {
        switch (below(16)) {
            case 0:
                return "y" + below(7) + ";";
            case 1:
            case 2:
            case 3:
                return "d" + below(m.count(0)) + below(below(3) == 0 ? 10 : 5) + below(below(3) == 0 ? 10 : 4) + ";";
            case 4:
                return "c" + below(4) + ";";
            case 5:
            case 6:
                return onePerson();
            case 7:
                return "g" + below(10) + below(10) + ";";
            case 8:
                return "p" + below(10) + below(10) + below(10) + below(10) + below(10) + ";";
            case 9:
                return "ydcpgi;0189 x".charAt(below(13)) + "";
            default:
                return "i" + below(m.count(0)) + below(Math.max(1, m.count(1))) + ";";
        }
    }

    private void tellSome() {
        StringBuilder letters = new StringBuilder();
        int n = below(5) + (below(8) == 0 ? 0 : 1);
        for (int i = 0; i < n; i++) {
            letters.append(statement());
        }
        if (letters.length() > 0 && below(8) == 0) {
            letters.deleteCharAt(below(letters.length()));
        }
        tell(letters.toString());
    }

    /** Puts the chain that lasts longest in the water, so that calls have one to look at. */
    private void standLongest() {
        if (m.longest(-1) == -9) {
            return;
        }
        for (int k = 0; k < m.count(0); k++) {
            int p = m.longest(k);
            same("longest(" + k + ")", x.longest(k), p);
            same("put(" + k + ", " + p + ")", x.put(k, p), m.put(k, p));
        }
    }

    private void call(int kind) {
        if (kind < 15) {
            callOfState(kind);
        } else {
            callOfMind(kind);
        }
    }

    private void callOfState(int kind) {
        int a = someone();
        int b = someone();
        int k = someYard();
        switch (kind) {
            case 0: { int v = below(3) == 0 ? STRANGE[below(STRANGE.length)] : 'y'; same("feed(" + v + ")", x.feed(v), m.feed(v)); break; }
            case 1: tellSome(); break;
            case 2: { int v = some(3); same("yard(" + k + ", " + v + ")", x.yard(k, v), m.yard(k, v)); break; }
            case 3: { int v = some(9); same("person(" + a + ", " + v + ")", x.person(a, v), m.person(a, v)); break; }
            case 4: same("grudge(" + a + ", " + b + ")", x.grudge(a, b), m.grudge(a, b)); break;
            case 5: {
                int v = m.count(6) > 5 ? 0 : some(2);
                same("quarrel(" + a + ", " + b + ", " + v + ")", x.quarrel(a, b, v), m.quarrel(a, b, v));
                break;
            }
            case 6: { int v = some(6); same("cold(" + v + ")", x.cold(v), m.cold(v)); break; }
            case 7: same("put(" + k + ", " + a + ")", x.put(k, a), m.put(k, a)); break;
            case 8: standLongest(); same("cross(" + a + ")", x.cross(a), m.cross(a)); break;
            case 9: if (below(3) == 0) { same("out()", x.out(), m.out()); } break;
            case 10: { int v = some(m.count(0) + 1); same("load(" + v + ")", x.load(v), m.load(v)); break; }
            case 11: { int v = some(2); same("slips(" + v + ")", x.slips(v), m.slips(v)); break; }
            case 12: same("lasts()", x.lasts(), m.lasts()); break;
            case 13: same("cross(" + a + ")", x.cross(a), m.cross(a)); break;
            default: same("chains()", x.chains(), m.chains()); break;
        }
    }

    private void callOfMind(int kind) {
        int a = someone();
        int b = someone();
        int k = someYard();
        switch (kind) {
            case 15: { int v = below(2) == 0 ? -1 : k; same("longest(" + v + ")", x.longest(v), m.longest(v)); break; }
            case 16: same("makeUp()", x.makeUp(), m.makeUp()); break;
            case 17: same("worth(" + a + ", " + b + ")", x.worth(a, b), m.worth(a, b)); break;
            case 18: same("change()", x.change(), m.change()); break;
            case 19: same("flood()", x.flood(), m.flood()); break;
            case 20: same("overs()", x.overs(), m.overs()); break;
            case 21: same("owes(" + a + ", " + b + ")", x.owes(a, b), m.owes(a, b)); break;
            case 22: same("owed(" + a + ")", x.owed(a), m.owed(a)); break;
            case 23: if (below(4) == 0) { oweSome(); same("strike()", x.strike(), m.strike()); } break;
            case 24: {
                int people = below(10) == 0 ? dice.nextInt() : below(1 << m.count(1));
                int v = below(2) == 0 ? -1 : a;
                same("wet(" + people + ", " + v + ")", x.wet(people, v), m.wet(people, v));
                break;
            }
            case 25: { int v = some(7); same("row(" + v + ")", x.row(v), m.row(v)); break; }
            case 26: judgeSome(); break;
            case 27: { int n = some(61); int z = dice.nextInt(); same("seeds(" + n + ", " + z + ")", x.seeds(n, z), m.seeds(n, z)); break; }
            case 28: if (below(2) == 0) { same("image()", x.image(), m.image()); } else if (below(2) == 0) { same("restore()", x.restore(), m.restore()); } break;
            default: { int v = below(19) - 1; same("count(" + v + ")", x.count(v), m.count(v)); break; }
        }
    }

    /** Goes over by one in a river of one yard, time and again, so that there are rings. */
    private void oweSome() {
        same("out()", x.out(), m.out());
        tell("y1;c0;");
        int n = m.count(1) < 2 ? 0 : below(16);
        for (int i = 0; i < n && calls < CALLS - 4; i++) {
            int a = below(Math.min(4, m.count(1)));
            int b = below(Math.min(4, m.count(1)));
            same("put(0, " + a + ")", x.put(0, a), m.put(0, a));
            same("cross(" + b + ")", x.cross(b), m.cross(b));
            same("out()", x.out(), m.out());
        }
    }

    private void judgeSome() {
        boolean good = m.longest(-1) != -9 && below(2) == 0;
        int n = good ? m.count(0) : below(6);
        for (int i = 0; i < n; i++) {
            int p = good && below(8) != 0 ? m.longest(i) : below(7);
            same("row(" + p + ")", x.row(p), m.row(p));
        }
        same("judge()", x.judge(), m.judge());
    }
}
