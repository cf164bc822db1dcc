/** Counts the answers that are as due, and prints those that are not. */
final class Due {
    private final String test;
    private int passed = 0;
    private int failed = 0;

    Due(String test) {
        this.test = test;
    }

    void is(String call, int got, int want) {
        if (got == want) {
            passed++;
            return;
        }
        failed++;
        System.out.println(test + ": " + call + " answered " + got + ", due is " + want);
    }

    void same(String what, String got, String want) {
        if (got.equals(want)) {
            passed++;
            return;
        }
        failed++;
        System.out.println(test + ": " + what + " is\n  " + got + ", due is\n  " + want);
    }

    void end() {
        System.out.println(test + ": " + passed + " passed, " + failed + " failed");
        if (failed != 0 || passed == 0) {
            System.exit(1);
        }
    }

    /** Feeds the letters and tells them. */
    static int tell(OverByTheHand x, String letters) {
        for (int i = 0; i < letters.length(); i++) {
            x.feed(letters.charAt(i));
        }
        return x.river();
    }

    /** A new object with rivers told to it. */
    static OverByTheHand river(String... tellings) {
        OverByTheHand x = new OverByTheHand();
        for (String letters : tellings) {
            int answer = tell(x, letters);
            if (answer < 1) {
                throw new IllegalStateException("the test tells no river: " + letters + " answered " + answer);
            }
        }
        return x;
    }

    /** All that can be seen without changing it, but the refusals; asks only what is not refused. */
    static String look(OverByTheHand x) {
        StringBuilder seen = new StringBuilder();
        for (int what = 0; what <= 9; what++) {
            seen.append(x.count(what)).append(' ');
        }
        int yards = x.count(0);
        int people = x.count(1);
        for (int k = 0; k < yards; k++) {
            for (int what = 0; what < 3; what++) {
                seen.append(x.yard(k, what)).append(' ');
            }
        }
        for (int p = 0; p < people; p++) {
            lookAtPerson(x, p, people, seen);
        }
        return seen.toString();
    }

    private static void lookAtPerson(OverByTheHand x, int p, int people, StringBuilder seen) {
        seen.append("| ");
        for (int what = 0; what < 9; what++) {
            seen.append(x.person(p, what)).append(' ');
        }
        for (int q = 0; q < people; q++) {
            if (q != p) {
                seen.append(x.grudge(p, q)).append(':').append(x.owes(p, q)).append(' ');
            }
        }
    }

    /** Looks at what only shows itself by being used up, too: the ROW, the letters, the image. */
    static String lookAtAll(OverByTheHand x) {
        StringBuilder seen = new StringBuilder(look(x));
        seen.append("\n  ROW ").append(x.judge());
        seen.append("\n  letters ").append(x.river()).append(": ").append(look(x));
        seen.append("\n  image ").append(x.restore()).append(": ").append(look(x));
        return seen.toString();
    }

    /** How many REFUSALS there were: -1 in place 1, and so on. */
    static int[] refusals(OverByTheHand x) {
        int[] counts = new int[7];
        for (int i = 1; i <= 6; i++) {
            counts[i] = x.count(10 + i);
        }
        return counts;
    }
}
