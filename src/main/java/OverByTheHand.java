/**
 * A river that is crossed by a chain of people who hold hands from bank to bank.
 * What each call answers stands in the document (DOC.md) under the promise that bears the call's name.
 */
public final class OverByTheHand {
    private static final int MOST_YARDS = 5;
    private static final int MOST_PEOPLE = 7;
    private static final int MOST_LETTERS = 80;
    private static final int MOST_IN_ROW = 5;
    private static final int MOST_SEEDS = 60;
    private static final int MOST_HOURS = 99;
    private static final int MOST_FLOOD = 9;
    private static final int GREATEST_LETTER = 255;
    private static final int GREATEST_DIGIT = 9;

    /** Nobody, no yard, no answer; as a place it is the near bank. */
    private static final int NONE = -9;
    private static final int OVER = 9;

    private static final int TALL = 1;
    private static final int SMALL = 2;
    private static final int SWIMMER = 3;
    private static final int STOUT = 4;
    private static final int HARDY = 5;

    private static final int WHY_EMPTY = 0;
    private static final int WHY_DEPTH = 1;
    private static final int WHY_LOAD = 2;
    private static final int WHY_GRUDGE = 3;

    private static final int REFUSED_NOBODY = -1;
    private static final int REFUSED_OTHER = -2;
    private static final int REFUSED_STATE = -3;
    private static final int REFUSED_BELOW = -4;
    private static final int REFUSED_ROOM = -6;
    /** owed() may be below 0 by itself, so that it answers this less the refusal: above all that can be owed. */
    private static final int OWED_REFUSED = 1000000000;

    private static final int FAULT_OF_LETTERS = -1000;
    private static final int FAULT_OF_STATEMENT = -2000;

    private final River now = new River();
    /** Holds a river that is only tried: told letters before they come, a grudge that is made up in mind. */
    private final River trial = new River();
    private final River kept = new River();
    private boolean isKept = false;
    private final Letters letters = new Letters();
    private final Mind mind = new Mind();
    private final int[] told = new int[MOST_IN_ROW];
    private int toldLength = 0;
    private final int[] refusals = new int[7];

    public OverByTheHand() {
    }

    public int feed(int letter) {
        if (letter < 0) {
            return refuse(REFUSED_BELOW);
        }
        if (letter > GREATEST_LETTER || letters.length >= MOST_LETTERS) {
            return refuse(REFUSED_ROOM);
        }
        letters.take(letter);
        return letters.length;
    }

    public int river() {
        int answer = tellRiver();
        letters.length = 0;
        return answer;
    }

    public int yard(int yard, int what) {
        if (!now.isYard(yard)) {
            return refuse(REFUSED_NOBODY);
        }
        switch (what) {
            case 0:
                return now.depth[yard];
            case 1:
                return now.pull[yard];
            case 2:
                return now.who[yard];
            default:
                return refuse(REFUSED_OTHER);
        }
    }

    public int person(int person, int what) {
        if (!now.isPerson(person)) {
            return refuse(REFUSED_NOBODY);
        }
        Person one = now.persons[person];
        switch (what) {
            case 0:
                return one.kind;
            case 1:
                return one.figure;
            case 2:
                return one.height;
            case 3:
                return one.strength;
            case 4:
                return one.warmth;
            case 5:
                return one.reaches();
            case 6:
                return one.holds();
            case 7:
                return one.cools(now.cold);
            case 8:
                return now.placeOf(person);
            default:
                return refuse(REFUSED_OTHER);
        }
    }

    public int grudge(int one, int other) {
        if (!now.areTwo(one, other)) {
            return refuse(REFUSED_NOBODY);
        }
        return now.grudgeOf(one, other);
    }

    public int quarrel(int one, int other, int is) {
        if (!now.areTwo(one, other)) {
            return refuse(REFUSED_NOBODY);
        }
        if (is != 0 && is != 1) {
            return refuse(REFUSED_OTHER);
        }
        int was = now.grudgeOf(one, other);
        now.setGrudge(one, other, is);
        return was;
    }

    public int cold(int v) {
        if (v < 0) {
            return refuse(REFUSED_BELOW);
        }
        if (v > GREATEST_DIGIT) {
            return refuse(REFUSED_ROOM);
        }
        int was = now.cold;
        now.cold = v;
        return was;
    }

    public int put(int yard, int person) {
        if (!now.isYard(yard) || !now.isPerson(person)) {
            return refuse(REFUSED_NOBODY);
        }
        if (now.persons[person].over) {
            return refuse(REFUSED_STATE);
        }
        int was = now.who[yard];
        now.enter(yard, person);
        return was;
    }

    public int out() {
        int were = now.inWater() + now.overThere();
        now.emptyWater();
        for (int p = 0; p < now.people; p++) {
            now.persons[p].over = false;
        }
        return were;
    }

    public int load(int hand) {
        if (hand < 0 || hand > now.yards) {
            return refuse(REFUSED_NOBODY);
        }
        return now.loadOf(hand);
    }

    public int slips(int what) {
        if (what != 0 && what != 1) {
            return refuse(REFUSED_OTHER);
        }
        int yard = now.firstSlip(now.who);
        if (yard == NONE || what == 0) {
            return yard;
        }
        return now.whySlips(now.who, yard);
    }

    public int lasts() {
        return now.minutesOf(now.who);
    }

    public int cross(int person) {
        if (!now.isPerson(person)) {
            return refuse(REFUSED_NOBODY);
        }
        if (!now.isNear(person) || now.minutesOf(now.who) < 1) {
            return refuse(REFUSED_STATE);
        }
        now.bringOver(person);
        return now.overThere();
    }

    public int chains() {
        mind.thinkOf(now, now.notOver());
        return mind.standing;
    }

    public int longest(int yard) {
        if (yard != -1 && !now.isYard(yard)) {
            return refuse(REFUSED_NOBODY);
        }
        mind.thinkOf(now, now.notOver());
        if (mind.standing == 0) {
            return NONE;
        }
        return yard == -1 ? mind.mostMinutes : mind.best[yard];
    }

    public int makeUp() {
        mind.thinkOf(now, now.notOver());
        return mind.fewestGrudges;
    }

    public int worth(int one, int other) {
        if (!now.areTwo(one, other)) {
            return refuse(REFUSED_NOBODY);
        }
        if (now.grudgeOf(one, other) == 0) {
            return refuse(REFUSED_STATE);
        }
        mind.thinkOf(now, now.notOver());
        int before = mind.mostMinutes;
        trial.copyFrom(now);
        trial.setGrudge(one, other, 0);
        mind.thinkOf(trial, trial.notOver());
        return mind.mostMinutes - before;
    }

    public int change() {
        return mind.bestChange(now);
    }

    public int flood() {
        if (now.firstSlip(now.who) != NONE) {
            return NONE;
        }
        int more = MOST_FLOOD;
        for (int k = 0; k < now.yards; k++) {
            more = Math.min(more, now.persons[now.who[k]].reaches() - now.depth[k]);
        }
        return more;
    }

    public int overs() {
        // Each crossing takes one minute from everybody's warmth, so that LASTS falls by just one.
        return Math.max(0, Math.min(now.minutesOf(now.who), now.nearBank()));
    }

    public int owes(int one, int other) {
        if (!now.areTwo(one, other)) {
            return refuse(REFUSED_NOBODY);
        }
        return now.hoursOf(one, other);
    }

    public int owed(int person) {
        if (!now.isPerson(person)) {
            return OWED_REFUSED - refuse(REFUSED_NOBODY);
        }
        int sum = 0;
        for (int other = 0; other < now.people; other++) {
            sum += now.hoursOf(other, person) - now.hoursOf(person, other);
        }
        return sum;
    }

    public int strike() {
        return now.strikeTwos() + now.strikeThrees();
    }

    public int wet(int people, int person) {
        if ((people & ~now.notOver()) != 0) {
            return refuse(REFUSED_NOBODY);
        }
        if (person != -1 && (!now.isPerson(person) || (people & 1 << person) == 0)) {
            return refuse(REFUSED_NOBODY);
        }
        if (Integer.bitCount(people) != now.yards) {
            return 0;
        }
        mind.thinkOf(now, people);
        return person == -1 ? mind.standing : mind.stoodIn[person];
    }

    public int row(int person) {
        if (person < 0) {
            return refuse(REFUSED_BELOW);
        }
        if (person >= MOST_PEOPLE || toldLength >= MOST_IN_ROW) {
            return refuse(REFUSED_ROOM);
        }
        told[toldLength] = person;
        toldLength++;
        return toldLength;
    }

    public int judge() {
        int place = now.firstAmiss(told, toldLength);
        toldLength = 0;
        return place;
    }

    public int seeds(int n, int z) {
        if (n < 1) {
            return refuse(REFUSED_BELOW);
        }
        if (n > MOST_SEEDS) {
            return refuse(REFUSED_ROOM);
        }
        if (now.people == 0) {
            return refuse(REFUSED_STATE);
        }
        return mind.standingBySeed(now, n, z);
    }

    public int image() {
        kept.copyFrom(now);
        isKept = true;
        return now.minute;
    }

    public int restore() {
        if (!isKept) {
            return refuse(REFUSED_STATE);
        }
        now.copyFrom(kept);
        return now.minute;
    }

    public int count(int what) {
        switch (what) {
            case 0:
                return now.yards;
            case 1:
                return now.people;
            case 2:
                return now.cold;
            case 3:
                return now.minute;
            case 4:
                return now.inWater();
            case 5:
                return now.overThere();
            case 6:
                return now.allGrudges();
            case 7:
                return now.allHours();
            case 8:
                return letters.length;
            case 9:
                return toldLength;
            default:
                return what >= 11 && what <= 16 ? refusals[what - 10] : NONE;
        }
    }

    private int refuse(int number) {
        refusals[-number]++;
        return number;
    }

    private int tellRiver() {
        int wrong = letters.firstWrong();
        if (wrong != NONE) {
            return FAULT_OF_LETTERS - wrong;
        }
        trial.copyFrom(now);
        int answer = letters.tellTo(trial);
        if (answer >= 0) {
            now.copyFrom(trial);
        }
        return answer;
    }

    /** One of the people. */
    private static final class Person {
        private int kind;
        private int figure;
        private int height;
        private int strength;
        private int warmth;
        private boolean over;

        private void copyFrom(Person other) {
            kind = other.kind;
            figure = other.figure;
            height = other.height;
            strength = other.strength;
            warmth = other.warmth;
            over = other.over;
        }

        private int reaches() {
            switch (kind) {
                case TALL:
                case STOUT:
                case HARDY:
                    return height + 2;
                case SMALL:
                    return height / 2;
                case SWIMMER:
                    return 99;
                default:
                    return height;
            }
        }

        private int holds() {
            switch (kind) {
                case SMALL:
                    return Math.max(0, strength - 2);
                case SWIMMER:
                    return strength / 2;
                case STOUT:
                case HARDY:
                    return strength + figure;
                default:
                    return strength;
            }
        }

        private int cools(int cold) {
            switch (kind) {
                case SMALL:
                    return 2 * (cold + 1);
                case STOUT:
                    return Math.max(1, cold);
                case HARDY:
                    return 1;
                default:
                    return cold + 1;
            }
        }

        /** How many minutes he bears in the water. */
        private int minutes(int cold) {
            int loss = cools(cold);
            return loss < 1 ? 0 : warmth / loss;
        }
    }

    /** All that an image holds: the yards, the people, who stands where, grudges and hours. */
    private static final class River {
        private int yards = 3;
        private int cold = 1;
        private int minute = 0;
        private int people = 0;
        private final int[] depth = new int[MOST_YARDS];
        private final int[] pull = new int[MOST_YARDS];
        /** Who is in each yard; behind the last yard nobody. */
        private final int[] who = new int[MOST_YARDS];
        private final Person[] persons = new Person[MOST_PEOPLE];
        /** Bit b of place a: a and b have a grudge. */
        private final int[] grudges = new int[MOST_PEOPLE];
        private final int[] hours = new int[MOST_PEOPLE * MOST_PEOPLE];

        private River() {
            for (int p = 0; p < MOST_PEOPLE; p++) {
                persons[p] = new Person();
            }
            for (int k = 0; k < MOST_YARDS; k++) {
                depth[k] = 2;
                pull[k] = 2;
                who[k] = NONE;
            }
        }

        private void copyFrom(River other) {
            yards = other.yards;
            cold = other.cold;
            minute = other.minute;
            people = other.people;
            System.arraycopy(other.depth, 0, depth, 0, MOST_YARDS);
            System.arraycopy(other.pull, 0, pull, 0, MOST_YARDS);
            System.arraycopy(other.who, 0, who, 0, MOST_YARDS);
            System.arraycopy(other.grudges, 0, grudges, 0, MOST_PEOPLE);
            System.arraycopy(other.hours, 0, hours, 0, MOST_PEOPLE * MOST_PEOPLE);
            for (int p = 0; p < MOST_PEOPLE; p++) {
                persons[p].copyFrom(other.persons[p]);
            }
        }

        private boolean isYard(int yard) {
            return yard >= 0 && yard < yards;
        }

        private boolean isPerson(int person) {
            return person >= 0 && person < people;
        }

        private boolean areTwo(int one, int other) {
            return isPerson(one) && isPerson(other) && one != other;
        }

        private int placeOf(int person) {
            if (persons[person].over) {
                return OVER;
            }
            for (int k = 0; k < yards; k++) {
                if (who[k] == person) {
                    return k;
                }
            }
            return NONE;
        }

        private boolean isNear(int person) {
            return placeOf(person) == NONE;
        }

        private int inWater() {
            int n = 0;
            for (int k = 0; k < yards; k++) {
                if (who[k] != NONE) {
                    n++;
                }
            }
            return n;
        }

        private int overThere() {
            int n = 0;
            for (int p = 0; p < people; p++) {
                if (persons[p].over) {
                    n++;
                }
            }
            return n;
        }

        private int nearBank() {
            return people - inWater() - overThere();
        }

        /** The people who are not over, as bits. */
        private int notOver() {
            int bits = 0;
            for (int p = 0; p < people; p++) {
                if (!persons[p].over) {
                    bits |= 1 << p;
                }
            }
            return bits;
        }

        private void emptyWater() {
            for (int k = 0; k < MOST_YARDS; k++) {
                who[k] = NONE;
            }
        }

        private void enter(int yard, int person) {
            for (int k = 0; k < yards; k++) {
                if (who[k] == person) {
                    who[k] = NONE;
                }
            }
            who[yard] = person;
        }

        private int grudgeOf(int one, int other) {
            return grudges[one] >> other & 1;
        }

        private void setGrudge(int one, int other, int is) {
            grudges[one] = grudges[one] & ~(1 << other) | is << other;
            grudges[other] = grudges[other] & ~(1 << one) | is << one;
        }

        private int allGrudges() {
            int ends = 0;
            for (int p = 0; p < people; p++) {
                ends += Integer.bitCount(grudges[p]);
            }
            return ends / 2;
        }

        private int loadOf(int hand) {
            int nearer = 0;
            int farther = 0;
            for (int k = 0; k < yards; k++) {
                if (k < hand) {
                    nearer += pull[k];
                } else {
                    farther += pull[k];
                }
            }
            return Math.min(nearer, farther);
        }

        /** Why somebody can't stand in a yard, whoever is beside him; NONE if he can. */
        private int whyNot(int yard, int person) {
            if (persons[person].reaches() < depth[yard]) {
                return WHY_DEPTH;
            }
            if (persons[person].holds() < Math.max(loadOf(yard), loadOf(yard + 1))) {
                return WHY_LOAD;
            }
            return NONE;
        }

        private int whySlips(int[] chain, int yard) {
            int person = chain[yard];
            if (!isPerson(person)) {
                return WHY_EMPTY;
            }
            int why = whyNot(yard, person);
            if (why != NONE || yard == 0) {
                return why;
            }
            int ahead = chain[yard - 1];
            return isPerson(ahead) && grudgeOf(ahead, person) == 1 ? WHY_GRUDGE : NONE;
        }

        private int firstSlip(int[] chain) {
            for (int k = 0; k < yards; k++) {
                if (whySlips(chain, k) != NONE) {
                    return k;
                }
            }
            return NONE;
        }

        /** How long a chain lasts; NONE if it does not stand. */
        private int minutesOf(int[] chain) {
            if (firstSlip(chain) != NONE) {
                return NONE;
            }
            int least = Integer.MAX_VALUE;
            for (int k = 0; k < yards; k++) {
                least = Math.min(least, persons[chain[k]].minutes(cold));
            }
            return least;
        }

        /** Only behind the test that the chain in the water stands and lasts a minute. */
        private void bringOver(int person) {
            for (int k = 0; k < yards; k++) {
                int holder = who[k];
                if (isPerson(holder)) {
                    persons[holder].warmth -= persons[holder].cools(cold);
                    int more = hoursOf(person, holder) + 1;
                    setHours(person, holder, Math.min(MOST_HOURS, more));
                }
            }
            persons[person].over = true;
            minute++;
        }

        /** The first place of a told chain with somebody who can't stand there, or where it is too short or long. */
        private int firstAmiss(int[] chain, int length) {
            int most = Math.min(length, yards);
            for (int k = 0; k < most; k++) {
                if (!canCome(chain, k) || whySlips(chain, k) != NONE) {
                    return k;
                }
            }
            return length == yards ? NONE : most;
        }

        private boolean canCome(int[] chain, int place) {
            int person = chain[place];
            if (!isPerson(person) || persons[person].over) {
                return false;
            }
            for (int k = 0; k < place; k++) {
                if (chain[k] == person) {
                    return false;
                }
            }
            return true;
        }

        private int hoursOf(int one, int other) {
            return hours[one * MOST_PEOPLE + other];
        }

        private void setHours(int one, int other, int v) {
            hours[one * MOST_PEOPLE + other] = v;
        }

        private void lessenHours(int one, int other, int by) {
            setHours(one, other, hoursOf(one, other) - by);
        }

        private int allHours() {
            int sum = 0;
            for (int i = 0; i < MOST_PEOPLE * MOST_PEOPLE; i++) {
                sum += hours[i];
            }
            return sum;
        }

        // Striking a ring makes no new one, so that going once through them in their order strikes them all.
        private int strikeTwos() {
            int struck = 0;
            for (int a = 0; a < people; a++) {
                for (int b = a + 1; b < people; b++) {
                    int least = Math.min(hoursOf(a, b), hoursOf(b, a));
                    if (least > 0) {
                        lessenHours(a, b, least);
                        lessenHours(b, a, least);
                        struck++;
                    }
                }
            }
            return struck;
        }

        private int strikeThrees() {
            int struck = 0;
            for (int a = 0; a < people; a++) {
                for (int b = a + 1; b < people; b++) {
                    for (int c = a + 1; c < people; c++) {
                        struck += c == b ? 0 : strikeThree(a, b, c);
                    }
                }
            }
            return struck;
        }

        private int strikeThree(int a, int b, int c) {
            int least = Math.min(hoursOf(a, b), Math.min(hoursOf(b, c), hoursOf(c, a)));
            if (least <= 0) {
                return 0;
            }
            lessenHours(a, b, least);
            lessenHours(b, c, least);
            lessenHours(c, a, least);
            return 1;
        }

        private boolean tellYards(int n) {
            if (n < 1 || n > MOST_YARDS) {
                return false;
            }
            yards = n;
            for (int k = 0; k < MOST_YARDS; k++) {
                depth[k] = 2;
                pull[k] = 2;
            }
            emptyWater();
            return true;
        }

        private boolean tellYard(int yard, int itsDepth, int itsPull) {
            if (!isYard(yard)) {
                return false;
            }
            depth[yard] = itsDepth;
            pull[yard] = itsPull;
            return true;
        }

        private boolean tellPerson(int kind, int figure, int height, int strength, int warmth) {
            if (kind > HARDY || people >= MOST_PEOPLE) {
                return false;
            }
            Person one = persons[people];
            one.kind = kind;
            one.figure = figure;
            one.height = height;
            one.strength = strength;
            one.warmth = warmth;
            one.over = false;
            people++;
            return true;
        }

        private boolean tellGrudge(int one, int other) {
            if (!areTwo(one, other)) {
                return false;
            }
            setGrudge(one, other, 1 - grudgeOf(one, other));
            return true;
        }

        private boolean tellIn(int yard, int person) {
            if (!isYard(yard) || !isPerson(person) || persons[person].over) {
                return false;
            }
            enter(yard, person);
            return true;
        }
    }

    /** The letters in which a river is told. */
    private static final class Letters {
        private final int[] row = new int[MOST_LETTERS];
        private int length = 0;

        private void take(int letter) {
            if (length < MOST_LETTERS) {
                row[length] = letter;
                length++;
            }
        }

        /** The letter at a place; NONE at the end and behind it. */
        private int at(int place) {
            return place >= 0 && place < length ? row[place] : NONE;
        }

        private boolean isDigit(int place) {
            return at(place) >= '0' && at(place) <= '9';
        }

        private int digit(int place) {
            return isDigit(place) ? at(place) - '0' : 0;
        }

        /** How many digits a statement has at least; 0 if none begins with this letter. */
        private static int leastDigits(int letter) {
            switch (letter) {
                case 'y':
                case 'c':
                    return 1;
                case 'g':
                case 'i':
                    return 2;
                case 'd':
                    return 3;
                case 'p':
                    return 5;
                default:
                    return 0;
            }
        }

        private static int mostDigits(int letter) {
            return letter == 'p' ? 6 : leastDigits(letter);
        }

        private int digitsFrom(int place, int most) {
            int n = 0;
            while (n < most && isDigit(place + n)) {
                n++;
            }
            return n;
        }

        /** The place of the ";" of the statement at a place, or -1 less the place of the first letter that can't be. */
        private int endOf(int start) {
            int least = leastDigits(at(start));
            if (least == 0) {
                return -1 - start;
            }
            int digits = digitsFrom(start + 1, mostDigits(at(start)));
            int end = start + 1 + digits;
            return digits < least || at(end) != ';' ? -1 - end : end;
        }

        /** The place of the first letter with which no river can go on; NONE if they are one. */
        private int firstWrong() {
            if (length == 0) {
                return 0;
            }
            int start = 0;
            for (int n = 0; n < MOST_LETTERS && start < length; n++) {
                int end = endOf(start);
                if (end < 0) {
                    return -1 - end;
                }
                start = end + 1;
            }
            return NONE;
        }

        /** Behind firstWrong() alone: how many statements came, or the fault of the first that may not. */
        private int tellTo(River river) {
            int start = 0;
            int statements = 0;
            while (statements < MOST_LETTERS && start < length) {
                if (!tellStatement(river, start)) {
                    return FAULT_OF_STATEMENT - start;
                }
                start = endOf(start) + 1;
                statements++;
            }
            return statements;
        }

        private boolean tellStatement(River river, int start) {
            int first = digit(start + 1);
            int second = digit(start + 2);
            int third = digit(start + 3);
            switch (at(start)) {
                case 'y':
                    return river.tellYards(first);
                case 'd':
                    return river.tellYard(first, second, third);
                case 'c':
                    river.cold = first;
                    return true;
                case 'p':
                    return river.tellPerson(first, second, third, digit(start + 4), warmthAt(start + 5));
                case 'g':
                    return river.tellGrudge(first, second);
                case 'i':
                    return river.tellIn(first, second);
                default:
                    return false;
            }
        }

        private int warmthAt(int place) {
            return isDigit(place + 1) ? 10 * digit(place) + digit(place + 1) : digit(place);
        }
    }

    /** Chains that are only thought of; what the last thought found stands in the fields. */
    private static final class Mind {
        private final int[] chain = new int[MOST_YARDS];
        /** For each yard the people, as bits, who reach its depth and hold its load. */
        private final int[] able = new int[MOST_YARDS];
        private final int[] minutes = new int[MOST_PEOPLE];
        private int standing = 0;
        private int mostMinutes = 0;
        private final int[] best = new int[MOST_YARDS];
        private int fewestGrudges = NONE;
        /** For each of the people the yards, as bits, where he stands in a chain that stands. */
        private final int[] stoodIn = new int[MOST_PEOPLE];

        /** Thinks of all chains of these people (bits). */
        private void thinkOf(River river, int people) {
            standing = 0;
            mostMinutes = 0;
            fewestGrudges = NONE;
            for (int p = 0; p < MOST_PEOPLE; p++) {
                stoodIn[p] = 0;
                minutes[p] = river.persons[p].minutes(river.cold);
            }
            for (int k = 0; k < river.yards; k++) {
                able[k] = ableIn(river, k);
            }
            extend(river, 0, people, 0, Integer.MAX_VALUE);
        }

        private int ableIn(River river, int yard) {
            int bits = 0;
            for (int p = 0; p < river.people; p++) {
                if (river.whyNot(yard, p) == NONE) {
                    bits |= 1 << p;
                }
            }
            return bits;
        }

        /** Each level is a yard further, and there are five at most. */
        private void extend(River river, int yard, int free, int grudges, int least) {
            if (yard >= river.yards) {
                weigh(river.yards, grudges, least);
                return;
            }
            for (int p = 0; p < river.people; p++) {
                if ((free & able[yard] & 1 << p) != 0) {
                    chain[yard] = p;
                    int more = yard == 0 ? 0 : river.grudgeOf(chain[yard - 1], p);
                    extend(river, yard + 1, free & ~(1 << p), grudges + more, Math.min(least, minutes[p]));
                }
            }
        }

        private void weigh(int yards, int grudges, int least) {
            if (fewestGrudges == NONE || grudges < fewestGrudges) {
                fewestGrudges = grudges;
            }
            if (grudges > 0) {
                return;
            }
            if (standing == 0 || least > mostMinutes) {
                mostMinutes = least;
                System.arraycopy(chain, 0, best, 0, yards);
            }
            standing++;
            for (int k = 0; k < yards; k++) {
                stoodIn[chain[k]] |= 1 << k;
            }
        }

        private int bestChange(River river) {
            int most = Math.max(0, river.minutesOf(river.who));
            int found = NONE;
            System.arraycopy(river.who, 0, chain, 0, MOST_YARDS);
            for (int k = 0; k < river.yards; k++) {
                // An empty yard has nobody whose place could be taken.
                for (int p = 0; p < river.people && river.who[k] != NONE; p++) {
                    chain[k] = p;
                    int minutesThen = river.isNear(p) ? river.minutesOf(chain) : NONE;
                    if (minutesThen > most) {
                        most = minutesThen;
                        found = 10 * k + p;
                    }
                }
                chain[k] = river.who[k];
            }
            return found;
        }

        private int standingBySeed(River river, int n, int seed) {
            int z = seed;
            int stood = 0;
            for (int i = 0; i < n; i++) {
                for (int k = 0; k < river.yards; k++) {
                    z = z * 1103515245 + 12345;
                    chain[k] = drawBelow(river.people, z);
                }
                if (river.firstAmiss(chain, river.yards) == NONE) {
                    stood++;
                }
            }
            return stood;
        }

        private static int drawBelow(int n, int z) {
            return n < 1 ? 0 : (z & Integer.MAX_VALUE) / 65536 % n;
        }
    }
}
