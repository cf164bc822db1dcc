/** The boundary cases of THE IMAGE, of counting, and of how long an object is used; promises 29 to 31. */
public final class EdgesOfImageTest {
    private static final Due due = new Due("EdgesOfImageTest");
    private static final String SEVEN = "p009999;".repeat(7);

    public static void main(String[] args) {
        restoreWithoutAnImage();
        imageOfANewObject();
        imageAnswersMinute();
        imageHoldsYards();
        imageHoldsPeople();
        imageHoldsWhoIsWhere();
        imageHoldsGrudges();
        imageHoldsHoursAndWarmth();
        imageHoldsNoLetters();
        imageHoldsNoRow();
        imageHoldsNoRefusals();
        imageHoldsNotItself();
        imageStaysAsItWasTaken();
        imageOfTheFullest();
        restoreMakesRoomForPeople();
        restoreBringsNothingOfLater();
        countsOfANewObject();
        countsOfTheFullest();
        countOfAnotherWhat();
        refusalsAreCountedEach();
        noCallRefusesBy5();
        for512Calls();
        for512CallsOfEach();
        twoObjectsHaveNothingInCommon();
        due.end();
    }

    /** restore: "-3 there is none." */
    private static void restoreWithoutAnImage() {
        OverByTheHand x = new OverByTheHand();
        due.is("restore()", x.restore(), -3);
        due.is("REFUSALS -3", x.count(13), 1);
        due.is("image()", x.image(), 0);
        due.is("restore()", x.restore(), 0);
        due.is("restore() again", x.restore(), 0);
        due.is("REFUSALS -3", x.count(13), 1);
    }

    /** "THE IMAGE: all that there is": of a new object, nobody is there again. */
    private static void imageOfANewObject() {
        OverByTheHand x = new OverByTheHand();
        x.image();
        Due.tell(x, "y5;c9;" + SEVEN);
        Due.tell(x, "g01;i46;d099;");
        x.restore();
        due.same("a new object again", Due.look(x), Due.look(new OverByTheHand()));
    }

    /** image: "THE IMAGE is taken: MINUTE."; restore: "It is RESTORED: MINUTE." */
    private static void imageAnswersMinute() {
        OverByTheHand x = Due.river("y1;c0;" + SEVEN, "i00;");
        due.is("image() at MINUTE 0", x.image(), 0);
        x.cross(1);
        x.cross(2);
        due.is("restore() from MINUTE 2", x.restore(), 0);
        due.is("MINUTE", x.count(3), 0);
        x.cross(1);
        due.is("image() at MINUTE 1", x.image(), 1);
        x.cross(2);
        due.is("restore()", x.restore(), 1);
        due.is("MINUTE", x.count(3), 1);
    }

    /** "all that there is": YARDS, DEPTH, PULL, COLD. */
    private static void imageHoldsYards() {
        OverByTheHand x = Due.river("y5;c9;d090;d109;d290;d309;d490;");
        String before = Due.look(x);
        x.image();
        Due.tell(x, "y1;c0;d055;");
        x.restore();
        due.same("more YARDS than now", Due.look(x), before);
        OverByTheHand y = Due.river("y1;c0;d055;");
        before = Due.look(y);
        y.image();
        Due.tell(y, "y5;c9;d090;d109;d290;d309;d490;");
        y.restore();
        due.same("fewer YARDS than now", Due.look(y), before);
    }

    /** "all that there is": PEOPLE with all that they have. */
    private static void imageHoldsPeople() {
        OverByTheHand x = Due.river("p012345;p123456;p234567;p345678;p456789;p567890;");
        String before = Due.look(x);
        x.image();
        Due.tell(x, "p098765;");
        due.is("PEOPLE", x.count(1), 7);
        x.restore();
        due.same("one less", Due.look(x), before);
        Due.tell(x, "p00001;");
        due.is("another is the seventh", x.person(6, 4), 1);
    }

    /** "all that there is": who is in the water, on the near bank, OVER. */
    private static void imageHoldsWhoIsWhere() {
        OverByTheHand x = Due.river("y2;c0;" + SEVEN, "i03;i14;");
        x.cross(6);
        String before = Due.look(x);
        x.image();
        x.out();
        x.put(0, 6);
        x.put(1, 3);
        x.cross(4);
        x.restore();
        due.same("who is where", Due.look(x), before);
        due.is("put(0, 6), who is OVER", x.put(0, 6), -3);
    }

    /** "all that there is": GRUDGES, made and made up. */
    private static void imageHoldsGrudges() {
        OverByTheHand x = Due.river(SEVEN);
        x.quarrel(0, 6, 1);
        x.quarrel(2, 3, 1);
        String before = Due.look(x);
        x.image();
        x.quarrel(6, 0, 0);
        x.quarrel(4, 5, 1);
        x.restore();
        due.same("GRUDGES", Due.look(x), before);
    }

    /** "all that there is": HOURS and WARMTH, MINUTE. */
    private static void imageHoldsHoursAndWarmth() {
        OverByTheHand x = Due.river("y1;c0;p009999;p009999;p009999;i00;");
        x.cross(2);
        x.out();
        x.put(0, 2);
        x.cross(0);
        String before = Due.look(x);
        x.image();
        x.strike();
        x.cross(1);
        due.is("all HOURS", x.count(7), 1);
        x.restore();
        due.same("HOURS, WARMTH, MINUTE", Due.look(x), before);
        due.is("strike()", x.strike(), 1);
    }

    /** "but .. letters": those that are there stay, those that were come not back. */
    private static void imageHoldsNoLetters() {
        OverByTheHand x = new OverByTheHand();
        x.feed('c');
        x.image();
        x.feed('7');
        x.feed(';');
        x.restore();
        due.is("letters", x.count(8), 3);
        due.is("river()", x.river(), 1);
        due.is("COLD", x.count(2), 7);
        x.restore();
        due.is("letters", x.count(8), 0);
        due.is("river()", x.river(), -1000);
    }

    /** "but .. the ROW". */
    private static void imageHoldsNoRow() {
        OverByTheHand x = Due.river("y2;p009999;p009999;");
        x.row(1);
        x.image();
        x.row(0);
        x.restore();
        due.is("in the ROW", x.count(9), 2);
        due.is("judge()", x.judge(), -9);
        x.restore();
        due.is("in the ROW", x.count(9), 0);
        due.is("judge()", x.judge(), 0);
    }

    /** "but .. REFUSALS". */
    private static void imageHoldsNoRefusals() {
        OverByTheHand x = new OverByTheHand();
        x.cold(-1);
        x.image();
        x.cold(10);
        x.cold(10);
        x.restore();
        due.is("REFUSALS -4", x.count(14), 1);
        due.is("REFUSALS -6", x.count(16), 2);
    }

    /** "but it": it can be RESTORED time and again. */
    private static void imageHoldsNotItself() {
        OverByTheHand x = new OverByTheHand();
        x.cold(5);
        x.image();
        for (int v = 0; v <= 9; v++) {
            x.cold(v);
            due.is("restore()", x.restore(), 0);
            due.is("COLD", x.count(2), 5);
        }
        x.cold(8);
        x.image();
        x.cold(0);
        x.restore();
        due.is("COLD of the later image", x.count(2), 8);
    }

    /** "THE IMAGE is taken": what comes later, before or behind restore(), does not go into it. */
    private static void imageStaysAsItWasTaken() {
        OverByTheHand x = Due.river("y2;c0;p009999;p009999;p009999;i00;i11;");
        x.image();
        String before = Due.look(x);
        for (int n = 0; n < 2; n++) {
            x.cross(2);
            x.quarrel(0, 2, 1);
            x.out();
            Due.tell(x, "d099;p00001;c9;");
            x.restore();
            due.same("as it was taken", Due.look(x), before);
        }
    }

    /** "all that there is": as much as there can be. */
    private static void imageOfTheFullest() {
        OverByTheHand x = Due.river("y5;c0;" + SEVEN, "i02;i13;i24;i35;i46;");
        x.cross(0);
        x.cross(1);
        for (int p = 0; p < 6; p++) {
            x.quarrel(p, p + 1, 1);
        }
        x.image();
        Due.tell(x, "y1;c9;");
        x.out();
        x.restore();
        int[] counts = {5, 7, 0, 2, 5, 2, 6, 10};
        for (int what = 0; what < counts.length; what++) {
            due.is("count(" + what + ")", x.count(what), counts[what]);
        }
    }

    /** "PEOPLE 0 .. 6": who came behind the image makes room again. */
    private static void restoreMakesRoomForPeople() {
        OverByTheHand x = Due.river("p00001;".repeat(6));
        x.image();
        for (int n = 0; n < 3; n++) {
            due.is("the seventh", Due.tell(x, "p00002;"), 1);
            due.is("the eighth", Due.tell(x, "p00003;"), -2000);
            x.restore();
        }
        due.is("PEOPLE", x.count(1), 6);
    }

    /** GRUDGES "(none at first)", HOURS "(0 at first)", "near bank (at first)": of who comes in the place of one who is no more. */
    private static void restoreBringsNothingOfLater() {
        OverByTheHand x = Due.river("y1;c0;p009999;");
        x.image();
        Due.tell(x, "p009999;i00;g01;");
        x.cross(1);
        due.is("OVER", x.count(5), 1);
        x.restore();
        due.is("OVER", x.count(5), 0);
        due.is("GRUDGES", x.count(6), 0);
        due.is("all HOURS", x.count(7), 0);
        Due.tell(x, "p00007;");
        due.is("where the new one is", x.person(1, 8), -9);
        due.is("his GRUDGE", x.grudge(0, 1), 0);
        due.is("his HOURS", x.owes(1, 0), 0);
        due.is("his WARMTH", x.person(1, 4), 7);
    }

    /** count: "0 YARDS, 1 PEOPLE, 2 COLD, 3 MINUTE, 4 in the water, 5 OVER, 6 GRUDGES, 7 all HOURS, 8 letters, 9 in the ROW". */
    private static void countsOfANewObject() {
        OverByTheHand x = new OverByTheHand();
        int[] counts = {3, 0, 1, 0, 0, 0, 0, 0, 0, 0, -9, 0, 0, 0, 0, 0, 0, -9};
        for (int what = 0; what < counts.length; what++) {
            due.is("count(" + what + ")", x.count(what), counts[what]);
        }
    }

    /** count: as much of each as there can be. */
    private static void countsOfTheFullest() {
        OverByTheHand x = Due.river("y5;c9;" + "p509999;".repeat(7), "i02;i13;i24;i35;i46;");
        x.cross(0);
        x.cross(1);
        for (int p = 0; p < 7; p++) {
            for (int q = 0; q < p; q++) {
                x.quarrel(p, q, 1);
            }
        }
        for (int n = 0; n < 80; n++) {
            x.feed('y');
        }
        for (int n = 0; n < 5; n++) {
            x.row(n);
        }
        int[] counts = {5, 7, 9, 2, 5, 2, 21, 10, 80, 5};
        for (int what = 0; what < counts.length; what++) {
            due.is("count(" + what + ")", x.count(what), counts[what]);
        }
    }

    /** count: "-9 for another what.": which is no REFUSAL. */
    private static void countOfAnotherWhat() {
        OverByTheHand x = new OverByTheHand();
        for (int what : new int[] {-1, 10, 17, 18, 266, Integer.MIN_VALUE, Integer.MIN_VALUE + 11, Integer.MAX_VALUE}) {
            due.is("count(" + what + ")", x.count(what), -9);
        }
        for (int what = 11; what <= 16; what++) {
            due.is("count(" + what + ")", x.count(what), 0);
        }
    }

    /** count: "11 .. 16 REFUSALS -1 .. -6": each by its own number. */
    private static void refusalsAreCountedEach() {
        OverByTheHand x = new OverByTheHand();
        int[] counts = new int[7];
        int[] order = {1, 2, 3, 4, 6, 6, 4, 3, 2, 1, 1, 6};
        for (int number : order) {
            due.is("a REFUSAL", refuse(x, number), -number);
            counts[number]++;
            for (int i = 1; i <= 6; i++) {
                due.is("count(" + (10 + i) + ")", x.count(10 + i), counts[i]);
            }
        }
    }

    private static int refuse(OverByTheHand x, int number) {
        switch (number) {
            case 1:
                return x.load(9);
            case 2:
                return x.slips(2);
            case 3:
                return x.restore();
            case 4:
                return x.cold(-1);
            default:
                return x.cold(10);
        }
    }

    /** REFUSALS: "-4 BELOW .. -6 ROOM": none is -5. */
    private static void noCallRefusesBy5() {
        OverByTheHand x = new OverByTheHand();
        for (int number : new int[] {1, 2, 3, 4, 6}) {
            refuse(x, number);
        }
        due.is("count(15)", x.count(15), 0);
        due.is("count(16)", x.count(16), 1);
    }

    /** "An object is used for at most 512 calls after it has been made": to the last of them it answers as told. */
    private static void for512Calls() {
        OverByTheHand x = new OverByTheHand();
        for (int n = 1; n <= 511; n++) {
            x.yard(3, 0);
        }
        due.is("count(11) as the 512th call", x.count(11), 511);
        OverByTheHand y = new OverByTheHand();
        for (int n = 1; n <= 511; n++) {
            y.cold(n % 10);
        }
        due.is("cold(0) as the 512th call", y.cold(0), 1);
    }

    /** "at most 512 calls": the dearest ones, one like the other. */
    private static void for512CallsOfEach() {
        String[] full = {"y5;c0;" + SEVEN, "g01;i02;i13;i24;i35;i46;"};
        OverByTheHand chains = Due.river(full);
        OverByTheHand worth = Due.river(full);
        OverByTheHand seeds = Due.river(full);
        OverByTheHand change = Due.river(full);
        int before = seeds.seeds(60, 1);
        for (int n = 0; n < 400; n++) {
            due.is("chains()", chains.chains(), 2040);
            due.is("worth(0, 1)", worth.worth(0, 1), 0);
            due.is("seeds(60, 1)", seeds.seeds(60, 1), before);
            due.is("change()", change.change(), -9);
        }
    }

    /** "A new object": another object's state is not its own. */
    private static void twoObjectsHaveNothingInCommon() {
        OverByTheHand x = Due.river("y5;c9;" + SEVEN);
        OverByTheHand y = new OverByTheHand();
        x.image();
        x.row(1);
        x.feed('y');
        x.load(9);
        due.same("the other one", Due.lookAtAll(y), Due.lookAtAll(new OverByTheHand()));
        due.is("REFUSALS of the other one", y.count(11), 0);
    }
}
