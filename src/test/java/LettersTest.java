/** Promises 1 to 3: a new object, feed, river. */
public final class LettersTest {
    private static final Due due = new Due("LettersTest");

    public static void main(String[] args) {
        newObject();
        feed();
        statements();
        wrongLetters();
        wrongStatements();
        allOrNothing();
        due.end();
    }

    private static void newObject() {
        OverByTheHand x = new OverByTheHand();
        int[] first = {3, 0, 1, 0, 0, 0, 0, 0, 0, 0, -9, 0, 0, 0, 0, 0, 0, -9};
        for (int what = 0; what < first.length; what++) {
            due.is("count(" + what + ") of a new object", x.count(what), first[what]);
        }
        for (int k = 0; k < 3; k++) {
            due.is("yard(" + k + ", 0)", x.yard(k, 0), 2);
            due.is("yard(" + k + ", 1)", x.yard(k, 1), 2);
            due.is("yard(" + k + ", 2)", x.yard(k, 2), -9);
        }
        due.is("yard(3, 0)", x.yard(3, 0), -1);
        due.is("person(0, 0)", x.person(0, 0), -1);
    }

    private static void feed() {
        OverByTheHand x = new OverByTheHand();
        due.is("feed(0)", x.feed(0), 1);
        due.is("feed(255)", x.feed(255), 2);
        due.is("feed(-1)", x.feed(-1), -4);
        due.is("feed(least)", x.feed(Integer.MIN_VALUE), -4);
        due.is("feed(256)", x.feed(256), -6);
        due.is("count(8)", x.count(8), 2);
        for (int n = 3; n <= 80; n++) {
            due.is("feed('y')", x.feed('y'), n);
        }
        due.is("feed of one too many", x.feed('y'), -6);
        due.is("feed(-1) of one too many", x.feed(-1), -4);
        due.is("count(8)", x.count(8), 80);
        due.is("count(14)", x.count(14), 3);
        due.is("count(16)", x.count(16), 2);
        due.is("river()", x.river(), -1000);
        due.is("count(8)", x.count(8), 0);
        due.is("feed again", x.feed('y'), 1);
    }

    private static void statements() {
        OverByTheHand x = Due.river("p512399;p00987;p00004;");
        due.is("PEOPLE", x.count(1), 3);
        due.is("WARMTH of two digits", x.person(0, 4), 99);
        due.is("WARMTH of one digit", x.person(2, 4), 4);
        int[] numbers = {5, 1, 2, 3, 99};
        for (int what = 0; what < numbers.length; what++) {
            due.is("person(0, " + what + ")", x.person(0, what), numbers[what]);
        }
        due.is("y and d", Due.tell(x, "y5;d439;c0;c7;"), 4);
        due.is("YARDS", x.count(0), 5);
        due.is("DEPTH", x.yard(4, 0), 3);
        due.is("PULL", x.yard(4, 1), 9);
        due.is("COLD", x.count(2), 7);
        due.is("g twice is none", Due.tell(x, "g01;g10;g02;"), 3);
        due.is("GRUDGE", x.grudge(0, 1), 0);
        due.is("GRUDGE", x.grudge(2, 0), 1);
        due.is("i, another in his place", Due.tell(x, "i00;i01;i32;"), 3);
        due.is("who was there", x.person(0, 8), -9);
        due.is("who is there", x.yard(0, 2), 1);
        due.is("he goes on to another YARD", Due.tell(x, "i41;"), 1);
        due.is("where he was is nobody", x.yard(0, 2), -9);
        due.is("he is there", x.person(1, 8), 4);
        Due.tell(x, "d057;");
        due.is("y takes all out", Due.tell(x, "y5;"), 1);
        for (int k = 0; k < 5; k++) {
            due.is("DEPTH of YARD " + k, x.yard(k, 0), 2);
            due.is("PULL of YARD " + k, x.yard(k, 1), 2);
        }
        due.is("in the water", x.count(4), 0);
        due.is("COLD stays", x.count(2), 7);
        due.is("a telling of 80 letters", Due.tell(x, "d000;".repeat(16)), 16);
        due.is("fewer YARDS", Due.tell(x, "i42;y1;"), 2);
        due.is("one in a YARD that is no more", x.person(2, 8), -9);
        due.is("YARD 1 is no more", x.yard(1, 0), -1);
    }

    private static void wrongLetters() {
        String[] rivers = {"", "x", ";", "Y3;", "y", "y;", "y3", "y3,", "y33;", "y3;;", "y3; ", "y3;d", "d00;", "d0000;",
            "c", "c;", "c12;", "p", "p0000", "p0000;", "p00001", "p0000123;", "p000012", "p0000x1;", "g0;", "g012;", "i0;",
            "i0:;", "y9;p9", "y3;c3;x", "d\u00e9"};
        int[] places = {0, 0, 0, 0, 1, 1, 2, 2, 2, 3, 3, 4, 3, 4, 1, 1, 2, 1, 5, 5, 6, 7, 7, 5, 2, 3, 2, 2, 5, 6, 1};
        for (int i = 0; i < rivers.length; i++) {
            OverByTheHand x = new OverByTheHand();
            due.is("river() of " + rivers[i], Due.tell(x, rivers[i]), -1000 - places[i]);
            due.is("letters behind it", x.count(8), 0);
        }
        OverByTheHand x = new OverByTheHand();
        due.is("80 letters, the last statement lacks its end", Due.tell(x, "c1;".repeat(26) + "c1"), -1080);
        for (int what = 11; what <= 16; what++) {
            due.is("a FAULT is no REFUSAL, count(" + what + ")", x.count(what), 0);
        }
    }

    private static void wrongStatements() {
        String[] rivers = {"y0;", "y6;", "y9;", "d300;", "y1;d100;", "y5;d400;d500;", "p60000;", "p90000;", "g00;", "g01;",
            "p00000;g01;", "p00000;g10;", "p00000;g00;", "p00000;p00000;g01;g11;", "i00;", "p00000;i30;", "p00000;i01;",
            "c1;p00000;y2;i20;", "p00000;p00000;p00000;p00000;p00000;p00000;p00000;p00000;"};
        int[] places = {0, 0, 0, 0, 3, 8, 0, 0, 0, 0, 7, 7, 7, 18, 0, 7, 7, 13, 49};
        for (int i = 0; i < rivers.length; i++) {
            OverByTheHand x = new OverByTheHand();
            due.is("river() of " + rivers[i], Due.tell(x, rivers[i]), -2000 - places[i]);
            due.is("letters behind it", x.count(8), 0);
        }
        OverByTheHand x = Due.river("y1;p009999;p009999;i01;");
        x.cross(0);
        due.is("i of one who is OVER", Due.tell(x, "c1;i00;"), -2003);
        due.is("g of one who is OVER", Due.tell(x, "g01;"), 1);
        due.is("y leaves him OVER", Due.tell(x, "y2;"), 1);
        due.is("OVER", x.person(0, 8), 9);
    }

    private static void allOrNothing() {
        OverByTheHand x = Due.river("y2;p009999;p119988;g01;i00;c3;");
        String before = Due.look(x);
        due.is("kind 2 at the end", Due.tell(x, "y3;c9;p00000;g02;i12;d600;"), -2021);
        due.same("all, behind a FAULT", Due.look(x), before);
        due.is("kind 1 at the end", Due.tell(x, "y3;c9;p00000;g02;i12;d60;"), -1024);
        due.same("all, behind a FAULT", Due.look(x), before);
        due.is("kind 1 goes ahead of kind 2", Due.tell(x, "y0;x"), -1003);
        due.is("the next telling", Due.tell(x, "c2;"), 1);
        due.is("COLD", x.count(2), 2);
        due.is("PEOPLE", x.count(1), 2);
    }
}
