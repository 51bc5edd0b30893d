/**
 * Promises 1 to 8 and section 1 of the terms, boundary cases: a test for each sentence that names one.
 * The number in a test's name is the promise's.
 */
public final class BedEdgeTest {
    private static final Check C = new Check();
    private static final int NONE = WarmPlace.NONE, UNKNOWN = WarmPlace.UNKNOWN, OUTSIDE = WarmPlace.OUTSIDE;
    private static final int NOT = WarmPlace.NOT, FULL = WarmPlace.FULL;
    private static final int LEAST = Integer.MIN_VALUE, MOST = Integer.MAX_VALUE;

    public static void main(String[] args) throws ReflectiveOperationException {
        C.runNumbered(BedEdgeTest.class);
        C.end("BedEdgeTest");
    }

    // ---- promise 1: a new object

    static void p01_noPlacesNoSleepers() {
        WarmPlace x = new WarmPlace();
        C.due("told(0)", x.told(0), 0);
        C.due("told(1)", x.told(1), 0);
        C.due("told(2)", x.told(2), 0);
        C.due("place(0, 0)", x.place(0, 0), UNKNOWN);
        C.due("place(0, 1)", x.place(0, 1), UNKNOWN);
        C.due("sleeper(0, 0)", x.sleeper(0, 0), UNKNOWN);
    }

    static void p01_allCountsAreEmpty() {
        WarmPlace x = new WarmPlace();
        for (int what : new int[] {4, 5, 6, 7, 9, 10, 11}) {
            C.due("told(" + what + ")", x.told(what), 0);
        }
        C.due("told(8)", x.told(8), NONE);
        C.due("fault()", x.fault(), NONE);
        C.due("tear()", x.tear(), 0);
        C.due("seed(0)", x.seed(0), 0);
    }

    static void p01_lawIsUntold() {
        WarmPlace x = new WarmPlace();
        C.due("told(3)", x.told(3), 1);
        C.due("rule(0)", x.rule(0), 0);
        C.due("rule(1)", x.rule(1), NONE);
    }

    static void p01_whatIsRefusedWithoutPlaces() {
        Check.Made made = WarmPlace::new;
        C.refused(made, "place(0, 0)", x -> x.place(0, 0), UNKNOWN);
        C.refused(made, "sleeper(0, 0)", x -> x.sleeper(0, 0), UNKNOWN);
        C.refused(made, "hour(0)", x -> x.hour(0), NOT);
        C.refused(made, "night(1)", x -> x.night(1), NOT);
        C.refused(made, "drift(1)", x -> x.drift(1), NOT);
        C.refused(made, "getUp(0)", x -> x.getUp(0), UNKNOWN);
        C.refused(made, "comeIn(0)", x -> x.comeIn(0), UNKNOWN);
        C.refused(made, "undo(1)", x -> x.undo(1), NOT);
        C.refused(made, "turnsFor(1, -1)", x -> x.turnsFor(1, -1), NOT);
        C.refused(made, "rhyme(1, -1)", x -> x.rhyme(1, -1), NOT);
        C.refused(made, "steady(-1)", x -> x.steady(-1), NOT);
        C.refused(made, "morning(0, 0)", x -> x.morning(0, 0), UNKNOWN);
        C.refused(made, "counted(1, -1)", x -> x.counted(1, -1), NOT);
        C.refused(made, "sure(1)", x -> x.sure(1), NOT);
        C.refused(made, "judge(0)", x -> x.judge(0), NOT);
        C.refused(made, "goBack(0)", x -> x.goBack(0), NOT);
    }

    static void p01_whatIsAnsweredWithoutPlaces() {
        WarmPlace x = new WarmPlace();
        C.due("firstAwake(0)", x.firstAwake(0), NONE);
        C.due("firstAwake(1)", x.firstAwake(1), NONE);
        C.due("laid(1, -1)", x.laid(1, -1), NONE);
        C.due("laid(1, 0)", x.laid(1, 0), NONE);
        C.due("change(-1)", x.change(-1), 0);
        C.due("change(0)", x.change(0), NONE);
        C.due("twoBeds(0)", x.twoBeds(0), NONE);
        C.due("twoBeds(1)", x.twoBeds(1), NONE);
        C.due("nobodyUp(50, 1000)", x.nobodyUp(50, 1000), 1000000000);
        C.due("write(3)", x.write(3), 1);
        C.due("keep(1)", x.keep(1), 1);
        C.due("goBack(1)", x.goBack(1), 1);
        C.due("bed()", x.bed(), 0);
    }

    // ---- promise 2: feed

    static void p02_letters0And255AreIn() {
        WarmPlace x = new WarmPlace();
        C.due("feed(0)", x.feed(0), 1);
        C.due("feed(255)", x.feed(255), 2);
    }

    static void p02_lettersBelow0AreOutside() {
        C.refused(Check::rich, "feed(-1)", x -> x.feed(-1), OUTSIDE);
        C.refused(Check::rich, "feed(least)", x -> x.feed(LEAST), OUTSIDE);
    }

    static void p02_lettersAbove255AreOutside() {
        C.refused(Check::rich, "feed(256)", x -> x.feed(256), OUTSIDE);
        C.refused(Check::rich, "feed('b' and 256)", x -> x.feed('b' + 256), OUTSIDE);
        C.refused(Check::rich, "feed(most)", x -> x.feed(MOST), OUTSIDE);
    }

    static void p02_200LettersAndOneMore() {
        WarmPlace x = new WarmPlace();
        for (int i = 1; i <= 200; i++) {
            C.due("feed(32)", x.feed(32), i);
        }
        C.due("feed(32), the 201st", x.feed(32), FULL);
        C.due("told(4)", x.told(4), 200);
        C.refused(Check::full, "feed('x')", y -> y.feed('x'), FULL);
        C.refused(Check::full, "feed(0)", y -> y.feed(0), FULL);
        C.refused(Check::full, "feed(255)", y -> y.feed(255), FULL);
    }

    static void p02_outsideGoesBeforeFull() {
        C.refused(Check::full, "feed(256)", x -> x.feed(256), OUTSIDE);
        C.refused(Check::full, "feed(-1)", x -> x.feed(-1), OUTSIDE);
    }

    static void p02_behindBedTheTextBeginsAnew() {
        WarmPlace x = Check.full();
        C.due("bed()", x.bed(), 0);
        C.due("told(4)", x.told(4), 0);
        C.due("feed(98)", x.feed('b'), 1);
    }

    // ---- promise 3: bed, and the text's bounds

    static void p03_anEmptyTextHasNoPlaces() {
        WarmPlace x = C.good("", 0);
        C.due("told(0)", x.told(0), 0);
        WarmPlace y = C.bedOf("b6 1;h5 9;s50 1 1 1;r1,2,3;");
        C.due("bed() of an empty text", y.bed(), 0);
        int[] due = {0, 0, 0, 1, 0, 0, 0, 0, -1, 0, 0, 0};
        for (int what = 0; what < due.length; what++) {
            C.due("told(" + what + ")", y.told(what), due[what]);
        }
        C.due("hour(0)", y.hour(0), NOT);
        C.due("sleeper(0, 0)", y.sleeper(0, 0), UNKNOWN);
    }

    static void p03_blanksAloneAreEmpty() {
        C.due("told(0)", C.good(" ", 0).told(0), 0);
        C.due("told(0)", C.good(" ".repeat(200), 0).told(0), 0);
    }

    static void p03_aTextOf200Letters() {
        String text = "b006 001;h000 009;h005 009;s099 009 020 098;s099 009 020 098;s099 009 020 098;s099 009 020 098;"
            + "s099 009 020 098;s099 009 020 098;r003,003,003,003,003,003,003,003";
        WarmPlace x = C.good(text + " ".repeat(199 - text.length()) + ";", 6);
        C.due("told(3)", x.told(3), 8);
        C.due("place(5, 0)", x.place(5, 0), 9);
        C.due("sleeper(5, 3)", x.sleeper(5, 3), 98);
    }

    static void p03_placesFrom2To6() {
        C.bad("b0 0;", 2, 1);
        C.bad("b1 0;", 2, 1);
        for (int n = 2; n <= 6; n++) {
            C.due("told(0)", C.good("b" + n + " 0;", 0).told(0), n);
        }
        C.bad("b7 0;", 2, 1);
        C.bad("b999 0;", 2, 1);
    }

    static void p03_ringIs0Or1() {
        C.due("told(1)", C.good("b2 0;", 0).told(1), 0);
        C.due("told(1)", C.good("b2 1;", 0).told(1), 1);
        C.bad("b2 2;", 2, 3);
        C.bad("b2 999;", 2, 3);
    }

    static void p03_bedComesOnce() {
        C.bad("b2 0;b2 0;", 3, 5);
        C.bad("b2 0;s9 1 1 1; b", 3, 15);
    }

    static void p03_bedComesFirst() {
        C.bad("h0 0;b2 0;", 1, 0);
        C.bad("r0;b2 0;", 1, 0);
        C.bad("  h0 0;", 1, 2);
        // no PLACES: a SLEEPER is one more than them, too, but 1 is less than 3
        C.bad("s9 1 1 1;b2 0;", 1, 0);
    }

    static void p03_heatOfPlacesThatThereAre() {
        for (int n = 2; n <= 6; n++) {
            C.good("b" + n + " 0;h0 1;", 0);
            C.due("place(last, 0)", C.good("b" + n + " 0;h" + (n - 1) + " 1;", 0).place(n - 1, 0), 1);
            C.bad("b" + n + " 0;h" + n + " 1;", 2, 6);
        }
        C.bad("b6 0;h999 1;", 2, 6);
    }

    static void p03_heatFrom0To9() {
        C.due("place(0, 0)", C.good("b2 0;h0 0;", 0).place(0, 0), 0);
        C.due("place(0, 0)", C.good("b2 0;h0 9;", 0).place(0, 0), 9);
        C.bad("b2 0;h0 10;", 2, 8);
    }

    static void p03_heatUntoldIs0() {
        WarmPlace x = C.bedOf("b6 0;h0 9;h1 9;h2 9;h3 9;h4 9;h5 9;");
        Check.tell(x, "b6 0;h2 4;");
        x.bed();
        for (int p = 0; p < 6; p++) {
            C.due("place(" + p + ", 0)", x.place(p, 0), p == 2 ? 4 : 0);
        }
    }

    static void p03_heatOfEachPlaceOnce() {
        C.good("b6 0;h0 1;h1 1;h2 1;h3 1;h4 1;h5 1;", 0);
        C.bad("b2 0;h0 0;h0 0;", 4, 11);
        C.bad("b2 0;h0 0;h1 0;h 001 0;", 4, 17);
        C.bad("b2 0;h0 0;h1 0;h0 0;", 4, 16);
        C.bad("b6 0;h5 0;h5", 4, 11);
    }

    static void p03_warmthFrom1To99() {
        C.bad("b2 0;s0 0 0 0;", 2, 6);
        C.due("sleeper(0, 0)", C.good("b2 0;s1 0 0 0;", 1).sleeper(0, 0), 1);
        C.due("sleeper(0, 0)", C.good("b2 0;s99 0 0 0;", 1).sleeper(0, 0), 99);
        C.bad("b2 0;s100 0 0 0;", 2, 6);
    }

    static void p03_givesFrom0To9() {
        C.due("sleeper(0, 1)", C.good("b2 0;s50 0 0 0;", 1).sleeper(0, 1), 0);
        C.due("sleeper(0, 1)", C.good("b2 0;s50 9 0 0;", 1).sleeper(0, 1), 9);
        C.bad("b2 0;s50 10 0 0;", 2, 9);
    }

    static void p03_losesFrom0To20() {
        C.due("sleeper(0, 2)", C.good("b2 0;s50 0 0 0;", 1).sleeper(0, 2), 0);
        C.due("sleeper(0, 2)", C.good("b2 0;s50 0 20 0;", 1).sleeper(0, 2), 20);
        C.bad("b2 0;s50 0 21 0;", 2, 11);
    }

    static void p03_wakesFrom0To98() {
        C.due("sleeper(0, 3)", C.good("b2 0;s99 0 0 0;", 1).sleeper(0, 3), 0);
        C.due("sleeper(0, 3)", C.good("b2 0;s99 0 0 98;", 1).sleeper(0, 3), 98);
        C.bad("b2 0;s99 0 0 99;", 2, 13);
        C.bad("b2 0;s99 0 0 100;", 2, 13);
    }

    static void p03_wakesBelowWarmth() {
        C.good("b2 0;s50 0 0 49;", 1);
        C.bad("b2 0;s50 0 0 50;", 4, 13);
        C.bad("b2 0;s50 0 0 51;", 4, 13);
        C.good("b2 0;s1 0 0 0;", 1);
        C.bad("b2 0;s1 0 0 1;", 4, 12);
        C.bad("b2 0;s98 0 0 98;", 4, 13);
    }

    static void p03_asManySleepersAsPlaces() {
        for (int n = 2; n <= 6; n++) {
            String text = "b" + n + " 0;" + "s9 1 1 1;".repeat(n);
            WarmPlace x = C.good(text, n);
            C.due("sleeper(last, 4)", x.sleeper(n - 1, 4), n - 1);
            C.bad(text + "s9 1 1 1;", 3, text.length());
            C.bad(text + "  s", 3, text.length() + 2);
        }
    }

    static void p03_eachInTheFirstEmptyPlace() {
        C.lies("three of five", C.good("b5 1;s9 1 1 1;s9 1 1 1;s9 1 1 1;", 3), "0 1 2 - -");
        C.lies("nobody", C.good("b2 1;", 0), "- -");
    }

    static void p03_lawOf1To8Words() {
        C.due("told(3)", C.good("b2 0;r3;", 0).told(3), 1);
        C.due("told(3)", C.good("b2 0;r3,3,3,3,3,3,3,3;", 0).told(3), 8);
        C.bad("b2 0;r;", 1, 6);
        C.bad("b2 0;r,3;", 1, 6);
        C.bad("b2 0;r3,;", 1, 8);
    }

    static void p03_aNinthWordIsAFaultAtItsComma() {
        C.bad("b2 0;r3,3,3,3,3,3,3,3,3;", 1, 21);
        C.bad("b2 0;r3,3,3,3,3,3,3,3 , 9;", 1, 22);
        C.bad("b2 0;r3,3,3,3,3,3,3,3,", 1, 21);
    }

    static void p03_lawWordsFrom0To3() {
        C.due("rule(0)", C.good("b2 0;r0;", 0).rule(0), 0);
        C.due("rule(0)", C.good("b2 0;r3;", 0).rule(0), 3);
        C.bad("b2 0;r4;", 2, 6);
        C.bad("b2 0;r0,0,0,0,0,0,0,4;", 2, 20);
    }

    static void p03_lawUntoldIsOneWord0() {
        WarmPlace x = C.bedOf("b2 0;r3,2,1;");
        Check.tell(x, "b2 0;");
        x.bed();
        C.due("told(3)", x.told(3), 1);
        C.due("rule(0)", x.rule(0), 0);
        C.due("rule(1)", x.rule(1), NONE);
    }

    static void p03_lawComesOnce() {
        C.bad("b2 0;r0;r0;", 3, 8);
        C.bad("b2 0;r0;s9 1 1 1;h0 1;r", 3, 22);
    }

    static void p03_numbersOf1To3Figures() {
        WarmPlace x = C.good("b06 001;h05 009;s009 08 007 06;r03,002;", 1);
        C.due("told(0)", x.told(0), 6);
        C.due("place(5, 0)", x.place(5, 0), 9);
        for (int what = 0; what < 4; what++) {
            C.due("sleeper(0, " + what + ")", x.sleeper(0, what), 9 - what);
        }
        C.due("rule(1)", x.rule(1), 2);
    }

    static void p03_fourFiguresAreAFaultAtTheFirst() {
        C.bad("b0002 0;", 2, 1);
        C.bad("b2 0001;", 2, 3);
        C.bad("b2 0;h0000 1;", 2, 6);
        C.bad("b2 0;h0 0001;", 2, 8);
        C.bad("b2 0;s0050 1 1 1;", 2, 6);
        C.bad("b2 0;s50 0001 1 1;", 2, 9);
        C.bad("b2 0;s50 1 0001 1;", 2, 11);
        C.bad("b2 0;s50 1 1 0001;", 2, 13);
        C.bad("b2 0;r0001;", 2, 6);
        C.bad("b2 0;r1,0001;", 2, 8);
    }

    static void p03_figuresWithoutEndDoNotWrapAround() {
        C.bad("b4294967298 0;", 2, 1);
        C.bad("b2 18446744073709551616;", 2, 3);
        C.bad("b2" + " ".repeat(8) + "0".repeat(190), 2, 10);
    }

    static void p03_blanksMayStandAnywhere() {
        WarmPlace x = C.good("  b  3  1  ;  h  2  4  ;  s  50  1  2  3  ;  r  1  ,  2  ;  ", 1);
        C.due("told(0)", x.told(0), 3);
        C.due("place(2, 0)", x.place(2, 0), 4);
        C.due("sleeper(0, 3)", x.sleeper(0, 3), 3);
        C.due("rule(1)", x.rule(1), 2);
    }

    static void p03_noBlankWithinANumber() {
        // two NUMBERS are read: R 5 is out of its bounds; a fifth one cannot stand in 's', a second one not in 'r'
        C.bad("b2 5 0;", 2, 3);
        C.bad("b2 0;s5 0 1 1 1;", 1, 14);
        C.bad("b2 0;r0 1;", 1, 8);
    }

    static void p03_numbersSideBySideNeedABlank() {
        C.bad("b20;", 2, 1);
        C.bad("b2 0;h01;", 1, 8);
        C.bad("b2 0;s50 111;", 2, 9);
        // words and signs need none
        C.good("b2 0;h1 9;s50 1 1 1;r1,2;", 1);
    }

    static void p03_onlyTheBlankIsABlank() {
        for (char c : new char[] {0, '\t', '\n', '\r', 160}) {
            C.bad(c + "b2 0;", 1, 0);
            C.bad("b2" + c + "0;", 1, 2);
            C.bad("b2 0;" + c, 1, 5);
        }
    }

    static void p03_everyLetterAtFirst() {
        for (char c = 0; c < 256; c++) {
            if (c == ' ') {
                C.good("" + c, 0);
            } else {
                C.bad("" + c, 1, c == 'b' ? 1 : 0);
            }
        }
    }

    static void p03_everyLetterBehindTheBed() {
        for (char c = 0; c < 256; c++) {
            if (c == ' ') {
                C.good("b2 0;" + c, 0);
            } else {
                C.bad("b2 0;" + c, c == 'b' ? 3 : 1, c == 'h' || c == 's' || c == 'r' ? 6 : 5);
            }
        }
    }

    static void p03_everyLetterBehindANumber() {
        for (char c = 0; c < 256; c++) {
            boolean figure = c >= '0' && c <= '9';
            if (c == ';') {
                C.good("b2 0" + c, 0);
            } else if (figure && c > '1') {
                C.bad("b2 0" + c, 2, 3);
            } else {
                C.bad("b2 0" + c, 1, figure || c == ' ' ? 5 : 4);
            }
        }
    }

    static void p03_everyLetterBehindALawWord() {
        for (char c = 0; c < 256; c++) {
            boolean figure = c >= '0' && c <= '9';
            if (c == ';') {
                C.good("b2 0;r0" + c, 0);
            } else if (figure && c > '3') {
                C.bad("b2 0;r0" + c, 2, 6);
            } else {
                C.bad("b2 0;r0" + c, 1, figure || c == ' ' || c == ',' ? 8 : 7);
            }
        }
    }

    static void p03_theEndIsAtTheLength() {
        String text = "b3 0;h1 9;s50 3 4 5;r1,2;";
        for (int length = 0; length < text.length(); length++) {
            String begun = text.substring(0, length);
            if (length == 0 || begun.endsWith(";")) {
                C.good(begun, length < 20 ? 0 : 1);
            } else {
                C.bad(begun, 1, length);
                C.bad(begun + "  ", 1, length + 2);
            }
        }
    }

    static void p03_theFirstLetterWithAFaultCounts() {
        C.bad("b2 0;h0 10;b2 0;x", 2, 8);
        C.bad("b2 0;h0 1;h0 99;x", 4, 11);
        C.bad("b2 0;r0;r9;x", 3, 8);
        C.bad("b2 0;x;b9 9;", 1, 5);
        C.bad("b2 0;s9 10 99 9;", 2, 8);
        C.bad("b9 9;", 2, 1);
    }

    static void p03_atOneLetterTheLeastNumberCounts() {
        // K is out of its bounds (2) and not below W (4); a PLACE told again (4) with four figures (2)
        C.bad("b2 0;s50 0 0 99;", 2, 13);
        C.bad("b2 0;s50 0 0 0050;", 2, 13);
        C.bad("b2 0;h0 1;h0000 1;", 2, 11);
    }

    static void p03_withAFaultAllIsAsItWas() {
        for (String text : new String[] {"7;x", "7;s40 3 4 5;h1 9;r3,3,3;b", "7;s9 1 1 9;", "10;"}) {
            WarmPlace x = Check.rich();
            Check.tell(x, text);
            C.due("bed() begun, then " + text, x.bed() < -10 ? 1 : 0, 1);
            WarmPlace twin = Check.rich();
            Check.tell(twin, "x");
            twin.bed();
            // both texts are empty now, both have a FAULT; the letter alone may be another one
            String got = Check.facts(x).replaceAll(", fault.*", "") + Check.later(x);
            String due = Check.facts(twin).replaceAll(", fault.*", "") + Check.later(twin);
            C.due("all as it was behind " + text, got.equals(due) ? 1 : 0, 1);
            C.due("told(4)", x.told(4), 0);
        }
    }

    static void p03_aGoodTextIsHour0AllInIt() {
        WarmPlace x = Check.rich();
        x.bed();
        Check.tell(x, "b4 1;h0 5;h2 3;s60 1 2 5;s61 3 4 5;s55 2 3 6;r1,2,3;");
        C.due("bed()", x.bed(), 3);
        C.looks("the same text again", x, "0 1 2 - | 60 61 55");
        C.due("told(5)", x.told(5), 0);
        C.due("told(6)", x.told(6), 0);
    }

    static void p03_aGoodTextLeavesNoMorningNoBook() {
        WarmPlace x = Check.full();
        C.due("bed()", x.bed(), 0);
        C.due("told(9)", x.told(9), 0);
        C.due("told(10)", x.told(10), 0);
        C.due("tear()", x.tear(), 0);
        C.due("write(1)", x.write(1), 1);
    }

    static void p03_aGoodTextLeavesNoImages() {
        WarmPlace x = C.bedOf("b2 0;s50 1 1 1;");
        x.keep(0);
        x.keep(1);
        Check.tell(x, "b2 0;s50 1 1 1;");
        x.bed();
        C.due("goBack(0)", x.goBack(0), NOT);
        C.due("goBack(1)", x.goBack(1), NOT);
    }

    static void p03_aGoodTextLeavesNothingToUndo() {
        WarmPlace x = Check.full();
        x.bed();
        C.due("told(11)", x.told(11), 0);
        C.due("undo(1)", x.undo(1), NOT);
        x.hour(0);
        C.due("undo(2)", x.undo(2), NOT);
        C.due("undo(1)", x.undo(1), 0);
    }

    static void p03_theSeedStays() {
        WarmPlace x = C.bedOf("b2 0;s50 1 1 1;");
        x.seed(MOST);
        C.due("bed() of an empty text", x.bed(), 0);
        C.due("seed(5)", x.seed(5), MOST);
        Check.tell(x, "b");
        C.due("bed() with a FAULT", x.bed(), -11);
        C.due("seed(0)", x.seed(0), 5);
    }

    // ---- promise 4: fault

    static void p04_noneAtFirst() {
        C.due("fault()", new WarmPlace().fault(), NONE);
    }

    static void p04_theFirstLetterIs0() {
        C.bad("x", 1, 0);
    }

    static void p04_theLastLetterIs199() {
        C.bad("b2 0;" + " ".repeat(194) + "x", 1, 199);
        C.bad("b2 0;" + " ".repeat(194) + "b", 3, 199);
        C.bad("b" + " ".repeat(198) + "7", 2, 199);
    }

    static void p04_theEndOf200LettersIs200() {
        C.bad("b2 0" + " ".repeat(196), 1, 200);
        C.bad(" ".repeat(199) + "b", 1, 200);
        C.bad(" ".repeat(198) + "b2", 1, 200);
        C.bad("b2 0;" + " ".repeat(194) + "s", 1, 200);
    }

    static void p04_theEndIsNotInTheTextBefore() {
        WarmPlace x = C.bedOf("b6 1;h5 9;");
        Check.tell(x, "b6 1");
        C.due("bed()", x.bed(), -11);
        C.due("fault()", x.fault(), 4);
        Check.tell(x, "b6 1;h5");
        C.due("bed()", x.bed(), -11);
        C.due("fault()", x.fault(), 7);
    }

    static void p04_ofTheLatestBed() {
        WarmPlace x = new WarmPlace();
        Check.tell(x, "b2 0;x");
        x.bed();
        C.due("fault()", x.fault(), 5);
        Check.tell(x, "b9");
        x.bed();
        C.due("fault() of the next", x.fault(), 1);
        Check.tell(x, "b2 0;");
        C.due("fault() before bed()", x.fault(), 1);
        x.bed();
        C.due("fault() of a good one", x.fault(), NONE);
        Check.tell(x, " ;");
        x.bed();
        C.due("fault() behind a good one", x.fault(), 1);
        x.bed();
        C.due("fault() of an empty one", x.fault(), NONE);
    }

    // ---- promise 5: told

    static void p05_whatFrom0To11() {
        C.refused(Check::rich, "told(-1)", x -> x.told(-1), OUTSIDE);
        C.refused(Check::rich, "told(12)", x -> x.told(12), OUTSIDE);
        C.refused(Check::rich, "told(least)", x -> x.told(LEAST), OUTSIDE);
        C.refused(Check::rich, "told(most)", x -> x.told(MOST), OUTSIDE);
        C.due("told(0)", Check.rich().told(0), 4);
        C.due("told(11)", Check.rich().told(11), 4);
        C.refused(WarmPlace::new, "told(-1) without PLACES", x -> x.told(-1), OUTSIDE);
    }

    static void p05_aRingOfTwoIsARing() {
        C.due("told(1)", C.bedOf("b2 1;").told(1), 1);
    }

    static void p05_setsOfNobodyAndOfSix() {
        WarmPlace x = C.bedOf("b6 0;" + "s9 0 9 1;".repeat(6));
        C.due("told(6)", x.told(6), 0);
        C.due("told(7)", x.told(7), 0);
        x.hour(0);
        C.due("told(7)", x.told(7), 63);
        for (int s = 0; s < 6; s++) {
            x.getUp(s);
        }
        C.due("told(6)", x.told(6), 63);
        C.due("told(7)", x.told(7), 0);
    }

    static void p05_awakeAtKNotAboveIt() {
        WarmPlace x = C.bedOf("b3 0;s10 0 3 6;s10 0 3 7;s10 0 3 8;");
        x.hour(0);
        C.due("told(7): of 7 with K 6, 7, 8", x.told(7), 6);
    }

    static void p05_coldestFrom2To199() {
        WarmPlace x = C.bedOf("b2 0;s99 0 20 98;");
        x.night(9);
        C.due("told(8)", x.told(8), 2);
        C.due("told(8)", C.bedOf("b2 0;s99 0 0 0;").told(8), 199);
        C.due("told(8) just above K", C.bedOf("b2 0;s99 0 0 98;").told(8), 101);
    }

    static void p05_coldestOfNobodyIsNone() {
        C.due("told(8) without SLEEPERS", C.bedOf("b2 0;").told(8), NONE);
        C.due("told(8), all UP", Check.nobody().told(8), NONE);
    }

    static void p05_emptyAndFull() {
        WarmPlace x = Check.full();
        C.due("told(4)", x.told(4), 200);
        C.due("told(9)", x.told(9), 6);
        C.due("told(10)", x.told(10), 20);
        C.due("told(11)", x.told(11), 30);
    }

    // ---- promise 6: place

    static void p06_placesThatThereAreNot() {
        C.refused(Check::rich, "place(-1, 0)", x -> x.place(-1, 0), UNKNOWN);
        C.refused(Check::rich, "place(4, 0)", x -> x.place(4, 0), UNKNOWN);
        C.refused(Check::rich, "place(least, 0)", x -> x.place(LEAST, 0), UNKNOWN);
        C.refused(Check::rich, "place(most, 1)", x -> x.place(MOST, 1), UNKNOWN);
        C.due("place(0, 0)", Check.rich().place(0, 0), 5);
        C.due("place(3, 0)", Check.rich().place(3, 0), 0);
        for (int n = 2; n <= 6; n++) {
            C.due("place(last, 1) of " + n, C.bedOf("b" + n + " 0;").place(n - 1, 1), NONE);
            C.due("place(" + n + ", 1) of " + n, C.bedOf("b" + n + " 0;").place(n, 1), UNKNOWN);
        }
    }

    static void p06_what0And1() {
        C.refused(Check::rich, "place(0, -1)", x -> x.place(0, -1), OUTSIDE);
        C.refused(Check::rich, "place(3, 2)", x -> x.place(3, 2), OUTSIDE);
        C.refused(Check::rich, "place(0, least)", x -> x.place(0, LEAST), OUTSIDE);
        C.refused(Check::rich, "place(0, most)", x -> x.place(0, MOST), OUTSIDE);
    }

    static void p06_unknownGoesBeforeOutside() {
        C.refused(Check::rich, "place(4, 2)", x -> x.place(4, 2), UNKNOWN);
        C.refused(Check::rich, "place(-1, -1)", x -> x.place(-1, -1), UNKNOWN);
        C.refused(WarmPlace::new, "place(0, 2)", x -> x.place(0, 2), UNKNOWN);
    }

    static void p06_anEmptyPlaceHasNone() {
        WarmPlace x = C.bedOf("b3 0;s50 0 0 1;s50 0 0 1;");
        C.due("place(2, 1)", x.place(2, 1), NONE);
        x.hour(1);
        C.due("place(0, 1)", x.place(0, 1), NONE);
        C.due("place(2, 1)", x.place(2, 1), 1);
    }

    // ---- promise 7: sleeper

    static void p07_sleepersThatThereAreNot() {
        // four PLACES, three SLEEPERS: the fourth is unknown
        C.refused(Check::rich, "sleeper(-1, 0)", x -> x.sleeper(-1, 0), UNKNOWN);
        C.refused(Check::rich, "sleeper(3, 0)", x -> x.sleeper(3, 0), UNKNOWN);
        C.refused(Check::rich, "sleeper(least, 0)", x -> x.sleeper(LEAST, 0), UNKNOWN);
        C.refused(Check::rich, "sleeper(most, 4)", x -> x.sleeper(MOST, 4), UNKNOWN);
        C.due("sleeper(0, 1)", Check.rich().sleeper(0, 1), 1);
        C.due("sleeper(2, 1)", Check.rich().sleeper(2, 1), 2);
        C.due("sleeper(5, 4) of six", C.bedOf("b6 0;" + "s9 1 1 1;".repeat(6)).sleeper(5, 4), 5);
        C.due("sleeper(6, 4) of six", C.bedOf("b6 0;" + "s9 1 1 1;".repeat(6)).sleeper(6, 4), UNKNOWN);
        C.due("sleeper(0, 0) of a bed without", C.bedOf("b6 0;").sleeper(0, 0), UNKNOWN);
    }

    static void p07_whatFrom0To4() {
        C.refused(Check::rich, "sleeper(0, -1)", x -> x.sleeper(0, -1), OUTSIDE);
        C.refused(Check::rich, "sleeper(2, 5)", x -> x.sleeper(2, 5), OUTSIDE);
        C.refused(Check::rich, "sleeper(0, least)", x -> x.sleeper(0, LEAST), OUTSIDE);
        C.refused(Check::rich, "sleeper(0, most)", x -> x.sleeper(0, MOST), OUTSIDE);
    }

    static void p07_unknownGoesBeforeOutside() {
        C.refused(Check::rich, "sleeper(3, 5)", x -> x.sleeper(3, 5), UNKNOWN);
        C.refused(Check::rich, "sleeper(-1, -1)", x -> x.sleeper(-1, -1), UNKNOWN);
        C.refused(WarmPlace::new, "sleeper(0, 5)", x -> x.sleeper(0, 5), UNKNOWN);
    }

    static void p07_whoIsUpHasNoPlace() {
        WarmPlace x = Check.rich();
        C.due("sleeper(1, 4)", x.sleeper(1, 4), NONE);
        C.due("sleeper(1, 1)", x.sleeper(1, 1), 3);
        x.comeIn(1);
        C.due("sleeper(1, 4)", x.sleeper(1, 4) >= 0 ? 1 : 0, 1);
    }

    // ---- promise 8: rule

    static void p08_notSoManyIsNone() {
        WarmPlace x = C.bedOf("b2 0;r3,2,1,0,3,2,1,2;");
        C.due("rule(0)", x.rule(0), 3);
        C.due("rule(7)", x.rule(7), 2);
        for (int i : new int[] {8, 9, MOST, -1, -2, LEAST}) {
            C.due("rule(" + i + ")", x.rule(i), NONE);
        }
    }

    static void p08_aShorterLawForgetsTheLonger() {
        WarmPlace x = C.bedOf("b2 0;r3,2,1,0,3,2,1,2;");
        Check.tell(x, "b2 0;r1;");
        x.bed();
        C.due("rule(0)", x.rule(0), 1);
        C.due("rule(1)", x.rule(1), NONE);
    }
}
