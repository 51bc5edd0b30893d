/** Promises 1 to 8: the bed and its text. */
public final class BedTest {
    private static final Check C = new Check();

    public static void main(String[] args) {
        newObject();
        feeding();
        goodTexts();
        faults();
        bedStartsAnew();
        faultLeavesAll();
        nothingOfTheTextBefore();
        toldOfAll();
        placesAndSleepers();
        law();
        C.end("BedTest");
    }

    private static void newObject() {
        WarmPlace x = new WarmPlace();
        int[] due = {0, 0, 0, 1, 0, 0, 0, 0, -1, 0, 0, 0};
        for (int what = 0; what < due.length; what++) {
            C.due("new: told(" + what + ")", x.told(what), due[what]);
        }
        C.due("new: fault()", x.fault(), WarmPlace.NONE);
        C.due("new: rule(0)", x.rule(0), 0);
        C.due("new: rule(1)", x.rule(1), WarmPlace.NONE);
        C.due("new: place(0, 0)", x.place(0, 0), WarmPlace.UNKNOWN);
        C.due("new: sleeper(0, 0)", x.sleeper(0, 0), WarmPlace.UNKNOWN);
        C.due("new: hour(0)", x.hour(0), WarmPlace.NOT);
        C.due("new: hour(4)", x.hour(4), WarmPlace.UNKNOWN);
        C.due("new: night(1)", x.night(1), WarmPlace.NOT);
        C.due("new: night(0)", x.night(0), WarmPlace.OUTSIDE);
        C.due("new: drift(1)", x.drift(1), WarmPlace.NOT);
        C.due("new: drift(100)", x.drift(100), WarmPlace.OUTSIDE);
        C.due("new: getUp(0)", x.getUp(0), WarmPlace.UNKNOWN);
        C.due("new: comeIn(0)", x.comeIn(0), WarmPlace.UNKNOWN);
        C.due("new: undo(1)", x.undo(1), WarmPlace.NOT);
        C.due("new: firstAwake(0)", x.firstAwake(0), WarmPlace.NONE);
        C.due("new: turnsFor(1, -1)", x.turnsFor(1, -1), WarmPlace.NOT);
        C.due("new: turnsFor(0, -1)", x.turnsFor(0, -1), WarmPlace.OUTSIDE);
        C.due("new: rhyme(1, -1)", x.rhyme(1, -1), WarmPlace.NOT);
        C.due("new: rhyme(31, -1)", x.rhyme(31, -1), WarmPlace.OUTSIDE);
        C.due("new: laid(1, -1)", x.laid(1, -1), WarmPlace.NONE);
        C.due("new: laid(1, 0)", x.laid(1, 0), WarmPlace.NONE);
        C.due("new: change(-1)", x.change(-1), 0);
        C.due("new: steady(-1)", x.steady(-1), WarmPlace.NOT);
        C.due("new: steady(0)", x.steady(0), WarmPlace.UNKNOWN);
        C.due("new: twoBeds(0)", x.twoBeds(0), WarmPlace.NONE);
        C.due("new: twoBeds(1)", x.twoBeds(1), WarmPlace.NONE);
        C.due("new: nobodyUp(50, 1000)", x.nobodyUp(50, 1000), 1000000000);
        C.due("new: morning(0, 0)", x.morning(0, 0), WarmPlace.UNKNOWN);
        C.due("new: counted(1, -1)", x.counted(1, -1), WarmPlace.NOT);
        C.due("new: counted(6, -1)", x.counted(6, -1), WarmPlace.OUTSIDE);
        C.due("new: sure(1)", x.sure(1), WarmPlace.NOT);
        C.due("new: sure(0)", x.sure(0), WarmPlace.OUTSIDE);
        C.due("new: judge(0)", x.judge(0), WarmPlace.NOT);
        C.due("new: judge(2)", x.judge(2), WarmPlace.OUTSIDE);
        C.due("new: tear()", x.tear(), 0);
        C.due("new: goBack(0)", x.goBack(0), WarmPlace.NOT);
        C.due("new: goBack(2)", x.goBack(2), WarmPlace.UNKNOWN);
        C.due("new: seed(0)", x.seed(0), 0);
        C.due("new: bed()", x.bed(), 0);
        C.due("new: fault() behind bed()", x.fault(), WarmPlace.NONE);
    }

    private static void feeding() {
        WarmPlace x = new WarmPlace();
        C.due("feed(-1)", x.feed(-1), WarmPlace.OUTSIDE);
        C.due("feed(256)", x.feed(256), WarmPlace.OUTSIDE);
        C.due("told(4)", x.told(4), 0);
        C.due("feed(0)", x.feed(0), 1);
        C.due("feed(255)", x.feed(255), 2);
        for (int i = 3; i <= 200; i++) {
            C.due("feed(32)", x.feed(32), i);
        }
        C.due("feed(32), the 201st", x.feed(32), WarmPlace.FULL);
        C.due("feed(256), the 201st", x.feed(256), WarmPlace.OUTSIDE);
        C.due("told(4)", x.told(4), 200);
        C.due("bed()", x.bed(), -11);
        C.due("fault()", x.fault(), 0);
        C.due("told(4)", x.told(4), 0);
        C.due("feed(32)", x.feed(32), 1);
    }

    private static void goodTexts() {
        C.good("", 0);
        C.good("   ", 0);
        C.good("b2 0;", 0);
        C.good("b6 1;", 0);
        C.good("  b  6   1  ;  ", 0);
        C.good("b002 001;", 0);
        C.good("b2 0;s99 9 20 98;", 1);
        C.good("b2 0;s1 0 0 0;s2 0 0 1;", 2);
        C.good("b2 0;r0;", 0);
        C.good("b2 0;r0,1,2,3,0,1,2,3;", 0);
        C.good("b2 0; r 0 , 1 ,2 , 3 ; s 5 0 0 1 ; h 1 9 ; h 0 0 ; ", 1);
        C.good("b2 0;r003;h001 009;s099 000 020 098;", 1);
        C.good("b6 0;s9 1 1 1;s9 1 1 1;s9 1 1 1;s9 1 1 1;s9 1 1 1;s9 1 1 1;", 6);
        StringBuilder longest = new StringBuilder("b2 0;");
        while (longest.length() < 200) {
            longest.append(' ');
        }
        C.good(longest.toString(), 0);
    }

    private static void faults() {
        // 1: what cannot stand there
        C.bad("x", 1, 0);
        C.bad("B2 0;", 1, 0);
        C.bad("\t", 1, 0);
        C.bad("  ;", 1, 2);
        C.bad(";", 1, 0);
        C.bad("5", 1, 0);
        C.bad("h0 1;b2 0;", 1, 0);
        C.bad("s5 1 1 1;", 1, 0);
        C.bad("r0;", 1, 0);
        C.bad("b", 1, 1);
        C.bad("b ", 1, 2);
        C.bad("b2", 1, 2);
        C.bad("b2 ", 1, 3);
        C.bad("b2 0", 1, 4);
        C.bad("b2 0 ", 1, 5);
        C.bad("b;", 1, 1);
        C.bad("b2;", 1, 2);
        C.bad("b2,0;", 1, 2);
        C.bad("b2 0,", 1, 4);
        C.bad("b2 0 0;", 1, 5);
        C.bad("b-2 0;", 1, 1);
        C.bad("b2 0;x", 1, 5);
        C.bad("b2 0; ;", 1, 6);
        C.bad("b2 0;h", 1, 6);
        C.bad("b2 0;h;", 1, 6);
        C.bad("b2 0;h0;", 1, 7);
        C.bad("b2 0;h0 1", 1, 9);
        C.bad("b2 0;h0 1 1;", 1, 10);
        C.bad("b2 0;h0,1;", 1, 7);
        C.bad("b2 0;s5 1 1;", 1, 11);
        C.bad("b2 0;s5 1 1 1", 1, 13);
        C.bad("b2 0;s5 1 1 1 1;", 1, 14);
        C.bad("b2 0;r;", 1, 6);
        C.bad("b2 0;r,", 1, 6);
        C.bad("b2 0;r0,;", 1, 8);
        C.bad("b2 0;r0 1;", 1, 8);
        C.bad("b2 0;r0,1", 1, 9);
        C.bad("b2 0;r0,1,2,3,0,1,2,3,0;", 1, 21);
        C.bad("b2 0;r0,1,2,3,0,1,2,3 ,9999;", 1, 22);
        C.bad("b2 0;r0,1,2,3,0,1,2,3", 1, 21);
        // 2: NUMBERS and PLACES
        C.bad("b1 0;", 2, 1);
        C.bad("b7 0;", 2, 1);
        C.bad("b7x", 2, 1);
        C.bad("b20;", 2, 1);
        C.bad("b0002 0;", 2, 1);
        C.bad("b  0002 0;", 2, 3);
        C.bad("b2 2;", 2, 3);
        C.bad("b2 0000;", 2, 3);
        C.bad("b2 99999999999;", 2, 3);
        C.bad("b2 4294967296;", 2, 3);
        C.bad("b2 0;h2 0;", 2, 6);
        C.bad("b3 0;h2 0;h3 0;", 2, 11);
        C.bad("b2 0;h0000 0;", 2, 6);
        C.bad("b2 0;h0 10;", 2, 8);
        C.bad("b2 0;s0 0 0 0;", 2, 6);
        C.bad("b2 0;s100 0 0 0;", 2, 6);
        C.bad("b2 0;s9 10 0 0;", 2, 8);
        C.bad("b2 0;s9 9 21 0;", 2, 10);
        C.bad("b2 0;s9 9 20 99;", 2, 13);
        C.bad("b2 0;s9 9 20 0099;", 2, 13);
        C.bad("b2 0;r4;", 2, 6);
        C.bad("b2 0;r0,1,4;", 2, 10);
        C.bad("b2 0;r0000;", 2, 6);
        // 3: again, one more
        C.bad("b2 0;b2 0;", 3, 5);
        C.bad("b2 0; b", 3, 6);
        C.bad("b2 0;r0;r0;", 3, 8);
        C.bad("b2 0;r0;s9 1 1 1;r", 3, 17);
        C.bad("b2 0;s9 1 1 1;s9 1 1 1;s9 1 1 1;", 3, 23);
        C.bad("b2 0;s9 1 1 1;s9 1 1 1;sx", 3, 23);
        // 4: a PLACE again, K of W or more
        C.bad("b2 0;h0 1;h0 1;", 4, 11);
        C.bad("b2 0;h0 0;h 00 x", 4, 12);
        C.bad("b2 0;h1 0;h0 3;h1 10;", 4, 16);
        C.bad("b2 0;s9 1 1 9;", 4, 12);
        C.bad("b2 0;s9 1 1 10x", 4, 12);
        C.bad("b2 0;s1 0 0 98;", 4, 12);
        C.bad("b2 0;s98 0 0 98;", 4, 13);
        // of several letters the first; at one letter the least
        C.bad("b2 0;h0 1;h2 1;", 2, 11);
        C.bad("b9 9;x", 2, 1);
        C.bad("b2 0;h0 99;h0 1;", 2, 8);
    }

    private static void bedStartsAnew() {
        WarmPlace x = C.bedOf("b3 1;h0 5;s20 1 1 1;s30 2 2 2;r1,2;");
        x.seed(77);
        x.keep(0);
        x.keep(1);
        x.hour(1);
        x.getUp(0);
        x.morning(1, 1);
        x.write(3);
        Check.tell(x, "b2 0;s40 3 4 5;");
        C.due("bed() again", x.bed(), 1);
        int[] due = {2, 0, 1, 1, 0, 0, 0, 0, 135, 0, 0, 0};
        for (int what = 0; what < due.length; what++) {
            C.due("bed() again: told(" + what + ")", x.told(what), due[what]);
        }
        C.looks("bed() again", x, "0 - | 40");
        C.due("HEAT untold", x.place(0, 0), 0);
        C.due("THE LAW untold", x.rule(0), 0);
        C.due("goBack(0): IMAGES are gone", x.goBack(0), WarmPlace.NOT);
        C.due("goBack(1): IMAGES are gone", x.goBack(1), WarmPlace.NOT);
        C.due("undo(1)", x.undo(1), WarmPlace.NOT);
        C.due("THE SEED stays", x.seed(0), 77);
        C.due("bed() of an empty text", x.bed(), 0);
        C.due("no PLACES", x.told(0), 0);
        C.due("no SLEEPERS", x.told(2), 0);
        C.due("THE LAW untold", x.told(3), 1);
        C.due("nobody", x.told(8), WarmPlace.NONE);
    }

    private static void faultLeavesAll() {
        WarmPlace x = C.bedOf("b3 1;h0 5;s20 1 1 1;s30 2 2 2;r1,2;");
        x.seed(77);
        x.keep(1);
        x.hour(1);
        x.getUp(0);
        x.morning(1, 1);
        x.write(3);
        String before = Check.facts(x);
        Check.tell(x, "b2 0;s40 3 4 5;h1 9;r3,3,3;b");
        C.due("bed() with a fault", x.bed(), -13);
        C.due("fault()", x.fault(), 27);
        String after = Check.facts(x).replace(", fault 27", ", fault -1");
        C.due("a FAULT leaves all as it was: " + before + " / " + after, before.equals(after) ? 1 : 0, 1);
        C.due("undo(2)", x.undo(2), 0);
        C.due("goBack(1)", x.goBack(1), 1);
        C.due("fault() stays", x.fault(), 27);
        C.due("bed() of an empty text", x.bed(), 0);
        C.due("fault() is gone", x.fault(), WarmPlace.NONE);
    }

    private static void nothingOfTheTextBefore() {
        WarmPlace x = C.bedOf("b6 1;h5 9;s50 1 1 1;r1,2,3;");
        C.due("bed() of an empty text", x.bed(), 0);
        C.due("told(1): no ring", x.told(1), 0);
        Check.tell(x, "b6 1");
        C.due("bed(): the ';' was in the text before", x.bed(), -11);
        C.due("fault() at the text's length", x.fault(), 4);
        Check.tell(x, "b6 0;h5");
        C.due("bed(): ' 9' was in the text before", x.bed(), -11);
        C.due("fault() at the text's length", x.fault(), 7);
        Check.tell(x, "b6 0;");
        C.due("bed()", x.bed(), 0);
        C.due("HEAT of the text before", x.place(5, 0), 0);
        C.due("THE LAW of the text before", x.told(3), 1);
        C.due("rule(0)", x.rule(0), 0);
        // 200 letters that end within a clause, in a NUMBER, behind a word
        for (String end : new String[] {"b2 0", "b2", "b"}) {
            x = C.bedOf("b6 1;h5 9;s50 1 1 1;r1,2,3;");
            Check.tell(x, " ".repeat(200 - end.length()) + end);
            C.due("told(4)", x.told(4), 200);
            C.due("bed() of 200 letters that end with " + end, x.bed(), -11);
            C.due("fault() of 200 letters", x.fault(), 200);
        }
    }

    private static void toldOfAll() {
        WarmPlace x = C.bedOf("b5 1;s20 1 1 5;s30 2 2 29;s40 3 3 3;r1,2,3;");
        x.hour(0);
        x.getUp(0);
        x.hour(0);
        x.morning(0, 0);
        x.morning(0, 1);
        x.write(0);
        x.write(0);
        x.write(0);
        x.feed(32);
        x.feed(32);
        x.feed(32);
        x.feed(32);
        // 1 had 30, in the first hour given 1 + 3, losing 2; in the second given 3, losing 2: 33, K 29.
        // 2 had 40, given 2, losing 3, twice: 38, K 3.
        int[] due = {5, 1, 3, 3, 4, 2, 1, 0, 104, 2, 3, 3};
        for (int what = 0; what < due.length; what++) {
            C.due("told(" + what + ")", x.told(what), due[what]);
        }
        C.due("told(-1)", x.told(-1), WarmPlace.OUTSIDE);
        C.due("told(12)", x.told(12), WarmPlace.OUTSIDE);
        WarmPlace y = C.bedOf("b2 0;s5 0 1 4;s5 0 1 3;");
        C.due("COLDEST at first", y.told(8), 101);
        C.due("AWAKE at first", y.told(7), 0);
        y.hour(0);
        C.due("AWAKE at K", y.told(7), 1);
        C.due("COLDEST at K", y.told(8), 100);
        y.hour(0);
        C.due("AWAKE at K and below", y.told(7), 3);
        C.due("COLDEST below", y.told(8), 99);
        y.getUp(0);
        C.due("who is UP", y.told(6), 1);
        C.due("AWAKE IN THE BED alone", y.told(7), 2);
        C.due("COLDEST IN THE BED alone", y.told(8), 100);
        y.getUp(1);
        C.due("both are UP", y.told(6), 3);
        C.due("nobody AWAKE", y.told(7), 0);
        C.due("nobody IN it", y.told(8), WarmPlace.NONE);
        WarmPlace z = C.bedOf("b2 0;s99 0 20 98;");
        z.night(9);
        C.due("COLDEST never below 2", z.told(8), 2);
    }

    private static void placesAndSleepers() {
        WarmPlace x = C.bedOf("b4 0;h3 9;h1 2;s20 1 2 3;s30 4 5 6;s40 7 8 9;");
        int[] heat = {0, 2, 0, 9};
        int[] who = {0, 1, 2, -1};
        for (int p = 0; p < 4; p++) {
            C.due("place(" + p + ", 0)", x.place(p, 0), heat[p]);
            C.due("place(" + p + ", 1)", x.place(p, 1), who[p]);
        }
        int[][] due = {{20, 1, 2, 3, 0}, {30, 4, 5, 6, 1}, {40, 7, 8, 9, 2}};
        for (int s = 0; s < 3; s++) {
            for (int what = 0; what < 5; what++) {
                C.due("sleeper(" + s + ", " + what + ")", x.sleeper(s, what), due[s][what]);
            }
        }
        C.due("place(-1, 0)", x.place(-1, 0), WarmPlace.UNKNOWN);
        C.due("place(4, 0)", x.place(4, 0), WarmPlace.UNKNOWN);
        C.due("place(4, 2)", x.place(4, 2), WarmPlace.UNKNOWN);
        C.due("place(0, 2)", x.place(0, 2), WarmPlace.OUTSIDE);
        C.due("place(0, -1)", x.place(0, -1), WarmPlace.OUTSIDE);
        C.due("sleeper(-1, 0)", x.sleeper(-1, 0), WarmPlace.UNKNOWN);
        C.due("sleeper(3, 0)", x.sleeper(3, 0), WarmPlace.UNKNOWN);
        C.due("sleeper(3, 5)", x.sleeper(3, 5), WarmPlace.UNKNOWN);
        C.due("sleeper(0, 5)", x.sleeper(0, 5), WarmPlace.OUTSIDE);
        C.due("sleeper(0, -1)", x.sleeper(0, -1), WarmPlace.OUTSIDE);
        x.getUp(1);
        C.due("PLACE of who is UP", x.sleeper(1, 4), WarmPlace.NONE);
        C.due("PLACE of who moved", x.sleeper(2, 4), 1);
    }

    private static void law() {
        WarmPlace x = C.bedOf("b2 0;r3,2,1,0,3,2,1,1;");
        int[] due = {3, 2, 1, 0, 3, 2, 1, 1};
        for (int i = 0; i < 8; i++) {
            C.due("rule(" + i + ")", x.rule(i), due[i]);
        }
        C.due("rule(8)", x.rule(8), WarmPlace.NONE);
        C.due("rule(-1)", x.rule(-1), WarmPlace.NONE);
        C.due("rule(least)", x.rule(Integer.MIN_VALUE), WarmPlace.NONE);
        C.due("rule(most)", x.rule(Integer.MAX_VALUE), WarmPlace.NONE);
    }
}
