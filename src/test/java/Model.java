import java.util.ArrayList;
import java.util.List;
import java.util.Set;
import java.util.TreeSet;
import java.util.function.ToIntFunction;
import java.util.regex.Matcher;
import java.util.regex.Pattern;

/**
 * The document once more, slow and by brute force: what the class answers by a short cut is tried out here
 * (crossings are made, floods rise, rings are listed and sorted, prefixes of a river are matched).
 */
final class Model {
    private static final Pattern RIVER =
        Pattern.compile("(?:y[0-9];|d[0-9]{3};|c[0-9];|p[0-9]{5,6};|g[0-9]{2};|i[0-9]{2};)+");

    /** Somebody: KIND, FIGURE, HEIGHT, STRENGTH, WARMTH, place (-9 near bank, 9 OVER). */
    private static final class One {
        int[] told = new int[5];
        int place = -9;

        int reaches() {
            return new int[] {told[2], told[2] + 2, told[2] / 2, 99, told[2] + 2, told[2] + 2}[told[0]];
        }

        int holds() {
            int s = told[3];
            return new int[] {s, s, s < 2 ? 0 : s - 2, s / 2, s + told[1], s + told[1]}[told[0]];
        }

        int cools(int cold) {
            int c = cold + 1;
            return new int[] {c, c, 2 * c, c, c == 1 ? 1 : c - 1, 1}[told[0]];
        }

        One copy() {
            One one = new One();
            one.told = told.clone();
            one.place = place;
            return one;
        }
    }

    /** What THE IMAGE holds. */
    private static final class World {
        List<int[]> yards = new ArrayList<>();
        List<One> people = new ArrayList<>();
        Set<String> grudges = new TreeSet<>();
        int[][] hours = new int[7][7];
        int cold = 1;
        int minute = 0;

        World() {
            lay(3);
        }

        void lay(int n) {
            yards.clear();
            for (int k = 0; k < n; k++) {
                yards.add(new int[] {2, 2});
            }
            for (One one : people) {
                if (one.place != 9) {
                    one.place = -9;
                }
            }
        }

        World copy() {
            World w = new World();
            w.yards.clear();
            for (int[] yard : yards) {
                w.yards.add(yard.clone());
            }
            for (One one : people) {
                w.people.add(one.copy());
            }
            w.grudges.addAll(grudges);
            for (int a = 0; a < 7; a++) {
                w.hours[a] = hours[a].clone();
            }
            w.cold = cold;
            w.minute = minute;
            return w;
        }

        int in(int yard) {
            for (int p = 0; p < people.size(); p++) {
                if (people.get(p).place == yard) {
                    return p;
                }
            }
            return -9;
        }

        List<Integer> water() {
            List<Integer> chain = new ArrayList<>();
            for (int k = 0; k < yards.size(); k++) {
                chain.add(in(k));
            }
            return chain;
        }

        void stand(int yard, int person) {
            int was = in(yard);
            if (was != -9) {
                people.get(was).place = -9;
            }
            people.get(person).place = yard;
        }

        int at(int place) {
            int n = 0;
            for (One one : people) {
                n += one.place == place ? 1 : 0;
            }
            return n;
        }

        int load(int hand) {
            int ahead = yards.subList(0, hand).stream().mapToInt(yard -> yard[1]).sum();
            int behind = yards.subList(hand, yards.size()).stream().mapToInt(yard -> yard[1]).sum();
            return ahead < behind ? ahead : behind;
        }

        int why(List<Integer> chain, int yard) {
            if (chain.get(yard) == -9) {
                return 0;
            }
            One one = people.get(chain.get(yard));
            if (one.reaches() < yards.get(yard)[0]) {
                return 1;
            }
            if (one.holds() < load(yard) || one.holds() < load(yard + 1)) {
                return 2;
            }
            return yard > 0 && grudges.contains(pair(chain.get(yard - 1), chain.get(yard))) ? 3 : -9;
        }

        int slip(List<Integer> chain) {
            for (int k = 0; k < yards.size(); k++) {
                if (why(chain, k) != -9) {
                    return k;
                }
            }
            return -9;
        }

        int lasts(List<Integer> chain) {
            if (slip(chain) != -9) {
                return -9;
            }
            int least = 1000;
            for (int p : chain) {
                int minutes = people.get(p).told[4] / people.get(p).cools(cold);
                least = minutes < least ? minutes : least;
            }
            return least;
        }

        boolean cross(int person) {
            if (people.get(person).place != -9 || lasts(water()) < 1) {
                return false;
            }
            for (int p : water()) {
                people.get(p).told[4] -= people.get(p).cools(cold);
                hours[person][p] = hours[person][p] == 99 ? 99 : hours[person][p] + 1;
            }
            people.get(person).place = 9;
            minute++;
            return true;
        }

        List<List<Integer>> chains() {
            List<List<Integer>> all = new ArrayList<>();
            orders(new ArrayList<>(), all);
            return all;
        }

        private void orders(List<Integer> begun, List<List<Integer>> all) {
            if (begun.size() == yards.size()) {
                all.add(new ArrayList<>(begun));
                return;
            }
            for (int p = 0; p < people.size(); p++) {
                if (!begun.contains(p) && people.get(p).place != 9) {
                    begun.add(p);
                    orders(begun, all);
                    begun.remove(begun.size() - 1);
                }
            }
        }

        List<Integer> longest() {
            List<Integer> best = null;
            for (List<Integer> chain : chains()) {
                if (slip(chain) == -9 && (best == null || lasts(chain) > lasts(best))) {
                    best = chain;
                }
            }
            return best;
        }
    }

    private World w = new World();
    private World kept = null;
    private String letters = "";
    private List<Integer> row = new ArrayList<>();
    private final int[] refusals = new int[7];

    private static String pair(int a, int b) {
        return a < b ? a + "," + b : b + "," + a;
    }

    private int no(int number) {
        refusals[-number]++;
        return number;
    }

    private boolean noOne(int p) {
        return p < 0 || p >= w.people.size();
    }

    private boolean noTwo(int a, int b) {
        return noOne(a) || noOne(b) || a == b;
    }

    private boolean noYard(int k) {
        return k < 0 || k >= w.yards.size();
    }

    int feed(int letter) {
        if (letter < 0) {
            return no(-4);
        }
        if (letter > 255 || letters.length() == 80) {
            return no(-6);
        }
        letters += (char) letter;
        return letters.length();
    }

    int river() {
        String told = letters;
        letters = "";
        for (int n = 1; n <= told.length(); n++) {
            Matcher m = RIVER.matcher(told.substring(0, n));
            if (!m.matches() && !m.hitEnd()) {
                return -1000 - (n - 1);
            }
        }
        if (!RIVER.matcher(told).matches()) {
            return -1000 - told.length();
        }
        World before = w.copy();
        int start = 0;
        String[] statements = told.split(";");
        for (String statement : statements) {
            if (!comes(statement)) {
                w = before;
                return -2000 - start;
            }
            start += statement.length() + 1;
        }
        return statements.length;
    }

    private boolean comes(String statement) {
        int[] d = statement.substring(1).chars().map(c -> c - '0').toArray();
        switch (statement.charAt(0)) {
            case 'y':
                if (d[0] < 1 || d[0] > 5) {
                    return false;
                }
                w.lay(d[0]);
                return true;
            case 'd':
                if (noYard(d[0])) {
                    return false;
                }
                w.yards.set(d[0], new int[] {d[1], d[2]});
                return true;
            case 'c':
                w.cold = d[0];
                return true;
            case 'p':
                if (d[0] > 5 || w.people.size() == 7) {
                    return false;
                }
                One one = new One();
                one.told = new int[] {d[0], d[1], d[2], d[3], Integer.parseInt(statement.substring(5))};
                w.people.add(one);
                return true;
            case 'g':
                if (noTwo(d[0], d[1])) {
                    return false;
                }
                if (!w.grudges.remove(pair(d[0], d[1]))) {
                    w.grudges.add(pair(d[0], d[1]));
                }
                return true;
            default:
                if (noYard(d[0]) || noOne(d[1]) || w.people.get(d[1]).place == 9) {
                    return false;
                }
                w.stand(d[0], d[1]);
                return true;
        }
    }

    int yard(int yard, int what) {
        if (noYard(yard)) {
            return no(-1);
        }
        if (what < 0 || what > 2) {
            return no(-2);
        }
        return what == 2 ? w.in(yard) : w.yards.get(yard)[what];
    }

    int person(int person, int what) {
        if (noOne(person)) {
            return no(-1);
        }
        if (what < 0 || what > 8) {
            return no(-2);
        }
        One one = w.people.get(person);
        return what < 5 ? one.told[what]
            : what == 5 ? one.reaches() : what == 6 ? one.holds() : what == 7 ? one.cools(w.cold) : one.place;
    }

    int grudge(int one, int other) {
        return noTwo(one, other) ? no(-1) : w.grudges.contains(pair(one, other)) ? 1 : 0;
    }

    int quarrel(int one, int other, int is) {
        if (noTwo(one, other)) {
            return no(-1);
        }
        if (is < 0 || is > 1) {
            return no(-2);
        }
        boolean changed = is == 1 ? w.grudges.add(pair(one, other)) : w.grudges.remove(pair(one, other));
        return changed ? 1 - is : is;
    }

    int cold(int v) {
        if (v < 0) {
            return no(-4);
        }
        if (v > 9) {
            return no(-6);
        }
        int was = w.cold;
        w.cold = v;
        return was;
    }

    int put(int yard, int person) {
        if (noYard(yard) || noOne(person)) {
            return no(-1);
        }
        if (w.people.get(person).place == 9) {
            return no(-3);
        }
        int was = w.in(yard);
        w.stand(yard, person);
        return was;
    }

    int out() {
        int n = w.people.size() - w.at(-9);
        w.people.forEach(one -> one.place = -9);
        return n;
    }

    int load(int hand) {
        return hand < 0 || hand > w.yards.size() ? no(-1) : w.load(hand);
    }

    int slips(int what) {
        if (what < 0 || what > 1) {
            return no(-2);
        }
        int yard = w.slip(w.water());
        return what == 0 || yard == -9 ? yard : w.why(w.water(), yard);
    }

    int lasts() {
        return w.lasts(w.water());
    }

    int cross(int person) {
        if (noOne(person)) {
            return no(-1);
        }
        return w.cross(person) ? w.at(9) : no(-3);
    }

    int chains() {
        return (int) w.chains().stream().filter(chain -> w.slip(chain) == -9).count();
    }

    int longest(int yard) {
        if (yard != -1 && noYard(yard)) {
            return no(-1);
        }
        List<Integer> best = w.longest();
        return best == null ? -9 : yard == -1 ? w.lasts(best) : best.get(yard);
    }

    int makeUp() {
        List<String> grudges = new ArrayList<>(w.grudges);
        int fewest = -9;
        World then = w.copy();
        for (int made = 0; made < 1 << grudges.size(); made++) {
            int n = Integer.bitCount(made);
            if (n > 4 || fewest != -9 && n >= fewest) {
                continue;
            }
            then.grudges.clear();
            for (int i = 0; i < grudges.size(); i++) {
                if ((made >> i & 1) == 0) {
                    then.grudges.add(grudges.get(i));
                }
            }
            if (then.chains().stream().anyMatch(chain -> then.slip(chain) == -9)) {
                fewest = n;
            }
        }
        return fewest;
    }

    int worth(int one, int other) {
        if (noTwo(one, other)) {
            return no(-1);
        }
        if (!w.grudges.contains(pair(one, other))) {
            return no(-3);
        }
        ToIntFunction<World> most = world -> world.longest() == null ? 0 : world.lasts(world.longest());
        World then = w.copy();
        then.grudges.remove(pair(one, other));
        return most.applyAsInt(then) - most.applyAsInt(w);
    }

    int change() {
        int now = lasts() == -9 ? 0 : lasts();
        int best = -9;
        for (int k = 0; k < w.yards.size(); k++) {
            for (int p = 0; p < w.people.size(); p++) {
                if (w.in(k) == -9 || w.people.get(p).place != -9) {
                    continue;
                }
                World then = w.copy();
                then.stand(k, p);
                if (then.lasts(then.water()) > now) {
                    now = then.lasts(then.water());
                    best = 10 * k + p;
                }
            }
        }
        return best;
    }

    int flood() {
        for (int more = 9; more >= 0; more--) {
            World then = w.copy();
            for (int[] yard : then.yards) {
                yard[0] += more;
            }
            if (then.slip(then.water()) == -9) {
                return more;
            }
        }
        return -9;
    }

    int overs() {
        World then = w.copy();
        int n = 0;
        for (int p = 0; p < then.people.size(); p++) {
            n += then.cross(p) ? 1 : 0;
        }
        return n;
    }

    int owes(int one, int other) {
        return noTwo(one, other) ? no(-1) : w.hours[one][other];
    }

    int owed(int person) {
        if (noOne(person)) {
            return 1000000000 - no(-1);
        }
        int sum = 0;
        for (int p = 0; p < 7; p++) {
            sum += w.hours[p][person];
            sum -= w.hours[person][p];
        }
        return sum;
    }

    int strike() {
        int struck = 0;
        for (int[] ring = firstRing(); ring != null; ring = firstRing()) {
            int least = 100;
            for (int i = 0; i < ring.length; i++) {
                least = Math.min(least, w.hours[ring[i]][ring[(i + 1) % ring.length]]);
            }
            for (int i = 0; i < ring.length; i++) {
                w.hours[ring[i]][ring[(i + 1) % ring.length]] -= least;
            }
            struck++;
        }
        return struck;
    }

    /** By the names of the rings, sorted: length, then the people from the least one on. */
    private int[] firstRing() {
        TreeSet<String> rings = new TreeSet<>();
        for (int a = 0; a < 7; a++) {
            for (int b = 0; b < 7; b++) {
                if (a < b && w.hours[a][b] > 0 && w.hours[b][a] > 0) {
                    rings.add("2" + a + b);
                }
                for (int c = 0; c < 7; c++) {
                    if (a < b && a < c && b != c && w.hours[a][b] > 0 && w.hours[b][c] > 0 && w.hours[c][a] > 0) {
                        rings.add("3" + a + b + c);
                    }
                }
            }
        }
        return rings.isEmpty() ? null : rings.first().substring(1).chars().map(c -> c - '0').toArray();
    }

    int wet(int people, int person) {
        for (int bit = 0; bit < 32; bit++) {
            if ((people >>> bit & 1) == 1 && (noOne(bit) || w.people.get(bit).place == 9)) {
                return no(-1);
            }
        }
        if (person != -1 && (noOne(person) || (people >>> person & 1) == 0)) {
            return no(-1);
        }
        int n = 0;
        int yards = 0;
        for (List<Integer> chain : w.chains()) {
            int bits = chain.stream().mapToInt(p -> 1 << p).sum();
            if (bits == people && w.slip(chain) == -9) {
                n++;
                yards |= person == -1 ? 0 : 1 << chain.indexOf(person);
            }
        }
        return person == -1 ? n : yards;
    }

    int row(int person) {
        if (person < 0) {
            return no(-4);
        }
        if (person > 6 || row.size() == 5) {
            return no(-6);
        }
        row.add(person);
        return row.size();
    }

    int judge() {
        List<Integer> told = row;
        row = new ArrayList<>();
        for (int i = 0; i < told.size(); i++) {
            if (i == w.yards.size()) {
                return i;
            }
            int p = told.get(i);
            if (noOne(p) || w.people.get(p).place == 9 || told.indexOf(p) < i || w.why(told, i) != -9) {
                return i;
            }
        }
        return told.size() < w.yards.size() ? told.size() : -9;
    }

    int seeds(int n, int z) {
        if (n < 1) {
            return no(-4);
        }
        if (n > 60) {
            return no(-6);
        }
        if (w.people.isEmpty()) {
            return no(-3);
        }
        long state = z & 0xffffffffL;
        int stood = 0;
        for (int i = 0; i < n; i++) {
            List<Integer> chain = new ArrayList<>();
            for (int k = 0; k < w.yards.size(); k++) {
                state = (state * 1103515245L + 12345L) % 4294967296L;
                chain.add((int) (state % 2147483648L / 65536L % w.people.size()));
            }
            boolean apart = new TreeSet<>(chain).size() == chain.size();
            boolean here = chain.stream().noneMatch(p -> w.people.get(p).place == 9);
            stood += apart && here && w.slip(chain) == -9 ? 1 : 0;
        }
        return stood;
    }

    int image() {
        kept = w.copy();
        return w.minute;
    }

    int restore() {
        if (kept == null) {
            return no(-3);
        }
        w = kept.copy();
        return w.minute;
    }

    int count(int what) {
        if (what >= 11 && what <= 16) {
            return refusals[what - 10];
        }
        if (what < 0 || what > 9) {
            return -9;
        }
        int hours = 0;
        for (int[] some : w.hours) {
            for (int h : some) {
                hours += h;
            }
        }
        int water = w.people.size() - w.at(9) - w.at(-9);
        return new int[] {w.yards.size(), w.people.size(), w.cold, w.minute, water, w.at(9), w.grudges.size(), hours,
            letters.length(), row.size()}[what];
    }
}
