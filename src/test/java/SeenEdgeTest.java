/**
 * Promises 23 to 28 and what section 3 of the terms says of them, boundary cases: a test for each sentence
 * that names one. The number in a test's name is the promise's.
 */
public final class SeenEdgeTest {
    private static final Check C = new Check();
    private static final int NONE = WarmPlace.NONE, UNKNOWN = WarmPlace.UNKNOWN, OUTSIDE = WarmPlace.OUTSIDE;
    private static final int NOT = WarmPlace.NOT, FULL = WarmPlace.FULL;
    private static final int LEAST = Integer.MIN_VALUE, MOST = Integer.MAX_VALUE;

    public static void main(String[] args) throws ReflectiveOperationException {
        C.runNumbered(SeenEdgeTest.class);
        C.end("SeenEdgeTest");
    }

    private static WarmPlace still(int places, int ring, int sleepers) {
        return C.bedOf("b" + places + " " + ring + ";" + "s50 0 0 1;".repeat(sleepers));
    }

    // ---- promise 23: morning

    static void p23_sleepersThatThereAreNot() {
        C.refused(Check::rich, "morning(-1, 0)", x -> x.morning(-1, 0), UNKNOWN);
        C.refused(Check::rich, "morning(3, 0)", x -> x.morning(3, 0), UNKNOWN);
        C.refused(Check::rich, "morning(least, 0)", x -> x.morning(LEAST, 0), UNKNOWN);
        C.refused(Check::rich, "morning(most, 0)", x -> x.morning(MOST, 0), UNKNOWN);
        C.refused(() -> C.bedOf("b2 0;"), "morning(0, 0) without SLEEPERS", x -> x.morning(0, 0), UNKNOWN);
        C.refused(WarmPlace::new, "morning(0, 0) without PLACES", x -> x.morning(0, 0), UNKNOWN);
    }

    static void p23_placesThatThereAreNot() {
        C.refused(Check::rich, "morning(0, -1)", x -> x.morning(0, -1), UNKNOWN);
        C.refused(Check::rich, "morning(0, 4)", x -> x.morning(0, 4), UNKNOWN);
        C.refused(Check::rich, "morning(0, least)", x -> x.morning(0, LEAST), UNKNOWN);
        C.refused(Check::rich, "morning(0, most)", x -> x.morning(0, MOST), UNKNOWN);
        C.refused(Check::rich, "morning(3, 4)", x -> x.morning(3, 4), UNKNOWN);
    }

    static void p23_theLastOfBoth() {
        WarmPlace x = still(6, 0, 6);
        C.due("morning(5, 5)", x.morning(5, 5), 1);
        C.due("morning(0, 0)", x.morning(0, 0), 2);
        // an empty PLACE is one, too
        WarmPlace y = still(6, 0, 1);
        C.due("morning(0, 5)", y.morning(0, 5), 1);
    }

    static void p23_sixAndOneMore() {
        WarmPlace x = still(6, 0, 6);
        for (int s = 0; s < 6; s++) {
            C.due("morning(" + s + ", " + s + ")", x.morning(s, s), s + 1);
        }
        C.due("the seventh", x.morning(0, 0), FULL);
        C.due("told(9)", x.told(9), 6);
        C.refused(Check::full, "morning(0, 0)", y -> y.morning(0, 0), FULL);
        C.refused(Check::full, "morning(1, 0)", y -> y.morning(1, 0), FULL);
    }

    static void p23_unknownGoesBeforeFull() {
        C.refused(Check::full, "morning(2, 0)", x -> x.morning(2, 0), UNKNOWN);
        C.refused(Check::full, "morning(0, 2)", x -> x.morning(0, 2), UNKNOWN);
        C.refused(Check::full, "morning(-1, -1)", x -> x.morning(-1, -1), UNKNOWN);
    }

    static void p23_whoIsUpMayBeTold() {
        WarmPlace x = Check.nobody();
        C.due("morning(0, 0)", x.morning(0, 0), 1);
        C.due("counted(1, -1)", x.counted(1, -1), 0);
    }

    // ---- promise 24: counted

    static void p24_hoursFrom1To5() {
        C.refused(Check::rich, "counted(0, -1)", x -> x.counted(0, -1), OUTSIDE);
        C.refused(Check::rich, "counted(6, -1)", x -> x.counted(6, -1), OUTSIDE);
        C.refused(Check::rich, "counted(-1, 0)", x -> x.counted(-1, 0), OUTSIDE);
        C.refused(Check::rich, "counted(least, 0)", x -> x.counted(LEAST, 0), OUTSIDE);
        C.refused(Check::rich, "counted(most, most)", x -> x.counted(MOST, MOST), OUTSIDE);
    }

    static void p24_noPlacesIsNot() {
        C.refused(WarmPlace::new, "counted(1, -1)", x -> x.counted(1, -1), NOT);
        C.refused(WarmPlace::new, "counted(5, 0)", x -> x.counted(5, 0), NOT);
    }

    static void p24_outsideGoesBeforeNot() {
        C.refused(WarmPlace::new, "counted(0, -1)", x -> x.counted(0, -1), OUTSIDE);
        C.refused(WarmPlace::new, "counted(6, 0)", x -> x.counted(6, 0), OUTSIDE);
    }

    static void p24_nothingChanges() {
        C.changesNothing(Check::rich, "counted(5, -1)", x -> x.counted(5, -1));
        C.changesNothing(Check::rich, "counted(5, 0)", x -> x.counted(5, 0));
    }

    private static void rows(WarmPlace x, int m, int count, int... first) {
        C.due("counted(" + m + ", -1)", x.counted(m, -1), count);
        for (int i = 0; i < first.length; i++) {
            C.due("counted(" + m + ", " + i + ")", x.counted(m, i), first[i]);
        }
        for (int i : new int[] {first.length, 5, MOST, -2, LEAST}) {
            C.due("counted(" + m + ", " + i + ")", x.counted(m, i), NONE);
        }
    }

    static void p24_nothingToldFitsAll() {
        rows(still(2, 0, 1), 1, 4, 0);
        rows(still(2, 0, 1), 5, 1024, 0, 0, 0, 0, 0);
        rows(C.bedOf("b2 0;"), 5, 1024, 0, 0, 0, 0, 0);
        rows(Check.nobody(), 1, 4, 0);
    }

    static void p24_noneFits() {
        WarmPlace x = still(4, 0, 4);
        x.morning(0, 2);
        rows(x, 1, 0);
        WarmPlace y = still(4, 0, 4);
        y.morning(0, 0);
        y.morning(1, 0);
        rows(y, 5, 0);
    }

    static void p24_oneInTwoPlaces() {
        WarmPlace x = still(4, 0, 4);
        x.morning(0, 0);
        x.morning(0, 1);
        rows(x, 5, 0);
    }

    static void p24_toldAgainFitsAsBefore() {
        WarmPlace x = still(4, 0, 4);
        for (int k = 0; k < 6; k++) {
            x.morning(1, 1);
        }
        rows(x, 1, 2, 0);
    }

    static void p24_theSixthCountsToo() {
        WarmPlace x = still(6, 0, 6);
        int[] change = {5, 1, 2, 3, 4};
        for (int p = 0; p < 5; p++) {
            x.morning(change[p], p);
        }
        rows(x, 1, 1, 3);
        x.morning(0, 4);
        rows(x, 1, 0);
    }

    static void p24_theLastAndTheFirst() {
        WarmPlace up = still(3, 0, 3);
        up.morning(2, 0);
        up.morning(0, 1);
        rows(up, 1, 1, 1);
        WarmPlace down = still(3, 1, 3);
        down.morning(0, 2);
        down.morning(1, 0);
        rows(down, 1, 1, 2);
        WarmPlace change = still(3, 1, 3);
        change.morning(0, 2);
        change.morning(1, 1);
        rows(change, 1, 1, 3);
        WarmPlace two = still(2, 1, 2);
        two.morning(0, 1);
        rows(two, 1, 3, 1);
    }

    static void p24_theFirstRowOfMany() {
        // of five WORDS an uneven number turns: of two PLACES 1, 2 and 3 are alike
        WarmPlace x = still(2, 0, 2);
        x.morning(0, 1);
        // 5 times 3, 10 times 27, once 243
        rows(x, 5, 528, 0, 0, 0, 0, 1);
    }

    static void p24_whoIsUpLiesNowhere() {
        WarmPlace x = still(2, 0, 2);
        x.getUp(1);
        x.morning(0, 0);
        rows(x, 1, 1, 0);
        x.morning(1, 1);
        rows(x, 1, 0);
        x.comeIn(1);
        rows(x, 1, 1, 0);
    }

    // ---- promise 25: sure

    static void p25_hoursFrom1To5() {
        C.refused(Check::rich, "sure(0)", x -> x.sure(0), OUTSIDE);
        C.refused(Check::rich, "sure(6)", x -> x.sure(6), OUTSIDE);
        C.refused(Check::rich, "sure(-1)", x -> x.sure(-1), OUTSIDE);
        C.refused(Check::rich, "sure(least)", x -> x.sure(LEAST), OUTSIDE);
        C.refused(Check::rich, "sure(most)", x -> x.sure(MOST), OUTSIDE);
    }

    static void p25_noPlacesIsNot() {
        C.refused(WarmPlace::new, "sure(1)", x -> x.sure(1), NOT);
        C.refused(WarmPlace::new, "sure(5)", x -> x.sure(5), NOT);
    }

    static void p25_outsideGoesBeforeNot() {
        C.refused(WarmPlace::new, "sure(0)", x -> x.sure(0), OUTSIDE);
        C.refused(WarmPlace::new, "sure(6)", x -> x.sure(6), OUTSIDE);
    }

    static void p25_nothingChanges() {
        C.changesNothing(Check::rich, "sure(5)", x -> x.sure(5));
    }

    static void p25_withoutAnyRow0() {
        WarmPlace x = still(2, 0, 2);
        x.morning(0, 0);
        x.morning(1, 0);
        for (int m = 1; m <= 5; m++) {
            C.due("sure(" + m + ")", x.sure(m), 0);
        }
    }

    static void p25_withoutAnyRow0BehindASureOne() {
        WarmPlace x = still(3, 0, 3);
        x.morning(0, 0);
        C.due("sure(1)", x.sure(1), 1);
        x.morning(0, 1);
        C.due("sure(1)", x.sure(1), 0);
    }

    static void p25_nothingToldNothingSure() {
        for (int m = 1; m <= 5; m++) {
            C.due("sure(" + m + ")", still(2, 0, 1).sure(m), 0);
        }
    }

    static void p25_eachWordAsASet() {
        WarmPlace stay = still(3, 0, 3);
        stay.morning(0, 0);
        C.due("sure(1): 0", stay.sure(1), 1);
        WarmPlace up = still(3, 0, 3);
        up.morning(0, 1);
        C.due("sure(1): 1", up.sure(1), 2);
        WarmPlace down = still(3, 0, 3);
        down.morning(1, 0);
        C.due("sure(1): 2", down.sure(1), 4);
        WarmPlace change = still(3, 0, 3);
        change.morning(0, 2);
        change.morning(1, 1);
        C.due("sure(1): 3", change.sure(1), 8);
        C.due("sure(2): 0 and 3", change.sure(2), 9);
    }

    static void p25_upAndDownComeToTheSame() {
        // of six PLACES the third up is the third down: neither is sure
        WarmPlace x = still(6, 0, 6);
        x.morning(1, 4);
        x.morning(0, 3);
        C.due("counted(3, -1)", x.counted(3, -1), 2);
        C.due("sure(3)", x.sure(3), 0);
    }

    // ---- promise 26: write

    static void p26_wordsFrom0To3() {
        C.refused(Check::rich, "write(-1)", x -> x.write(-1), UNKNOWN);
        C.refused(Check::rich, "write(4)", x -> x.write(4), UNKNOWN);
        C.refused(Check::rich, "write(least)", x -> x.write(LEAST), UNKNOWN);
        C.refused(Check::rich, "write(most)", x -> x.write(MOST), UNKNOWN);
        C.refused(WarmPlace::new, "write(4)", x -> x.write(4), UNKNOWN);
        WarmPlace x = still(2, 0, 1);
        C.due("write(0)", x.write(0), 1);
        C.due("write(3)", x.write(3), 2);
    }

    static void p26_twentyAndOneMore() {
        WarmPlace x = still(2, 0, 1);
        for (int k = 1; k <= 20; k++) {
            C.due("write(" + k % 4 + ")", x.write(k % 4), k);
        }
        C.due("the 21st", x.write(0), FULL);
        C.due("told(10)", x.told(10), 20);
        C.refused(Check::full, "write(0)", y -> y.write(0), FULL);
        C.refused(Check::full, "write(3)", y -> y.write(3), FULL);
    }

    static void p26_unknownGoesBeforeFull() {
        C.refused(Check::full, "write(4)", x -> x.write(4), UNKNOWN);
        C.refused(Check::full, "write(-1)", x -> x.write(-1), UNKNOWN);
    }

    // ---- promise 27: judge

    static void p27_what0And1() {
        C.refused(Check::rich, "judge(-1)", x -> x.judge(-1), OUTSIDE);
        C.refused(Check::rich, "judge(2)", x -> x.judge(2), OUTSIDE);
        C.refused(Check::rich, "judge(least)", x -> x.judge(LEAST), OUTSIDE);
        C.refused(Check::rich, "judge(most)", x -> x.judge(MOST), OUTSIDE);
    }

    static void p27_nobodyIsNot() {
        C.refused(Check::nobody, "judge(0)", x -> x.judge(0), NOT);
        C.refused(Check::nobody, "judge(1)", x -> x.judge(1), NOT);
        C.refused(() -> C.bedOf("b2 0;"), "judge(0) without SLEEPERS", x -> x.judge(0), NOT);
        C.refused(WarmPlace::new, "judge(1) without PLACES", x -> x.judge(1), NOT);
    }

    static void p27_outsideGoesBeforeNot() {
        C.refused(Check::nobody, "judge(2)", x -> x.judge(2), OUTSIDE);
        C.refused(WarmPlace::new, "judge(-1)", x -> x.judge(-1), OUTSIDE);
    }

    static void p27_nothingChanges() {
        C.changesNothing(Check::rich, "judge(0)", x -> x.judge(0));
        C.changesNothing(Check::full, "judge(1)", x -> x.judge(1));
    }

    private static void judged(String text, int words, int wrong, int coldest) {
        WarmPlace x = C.bedOf(text);
        for (int k = 0; k < words; k++) {
            x.write(0);
        }
        C.due("judge(0) of " + text, x.judge(0), wrong);
        C.due("judge(1) of " + text, x.judge(1), coldest);
    }

    static void p27_anEmptyBook() {
        judged("b2 0;s9 0 1 5;", 0, NONE, 104);
        // AWAKE now, but behind no hour of THE BOOK
        WarmPlace x = C.bedOf("b2 0;s9 0 4 5;");
        x.hour(0);
        C.due("told(7)", x.told(7), 1);
        C.due("judge(0)", x.judge(0), NONE);
        C.due("judge(1)", x.judge(1), 100);
    }

    static void p27_theFirstHourIs0() {
        judged("b2 0;s9 0 4 5;", 1, 0, 100);
        judged("b2 0;s9 0 3 5;", 1, NONE, 101);
        judged("b2 0;s9 0 3 5;", 2, 1, 98);
    }

    static void p27_theLastHourIs19() {
        judged("b2 0;s20 0 1 0;", 20, 19, 100);
        judged("b2 0;s21 0 1 0;", 20, NONE, 101);
        judged("b2 0;s20 0 1 0;", 19, NONE, 101);
    }

    static void p27_theFirstOfManyWrongHours() {
        judged("b2 0;s20 0 5 0;", 20, 3, 100);
        judged("b2 0;s99 0 20 98;", 20, 0, 2);
    }

    static void p27_eachOfTheFourWords() {
        // alone in the first of three PLACES, the last one is warm: 1 and 0 leave it cold, 2 and 3 bring it there
        int[] due = {145, 145, 154, 154};
        for (int word = 0; word < 4; word++) {
            WarmPlace x = C.bedOf("b3 0;h2 9;s50 0 4 1;");
            x.write(word);
            C.due("judge(1) of " + word, x.judge(1), due[word]);
        }
    }

    static void p27_fromNowNotByTheHour() {
        WarmPlace x = C.bedOf("b2 0;s20 0 5 0;");
        x.write(0);
        x.write(0);
        x.hour(0);
        x.hour(0);
        C.due("judge(0) in HOUR 2", x.judge(0), 1);
        x.hour(0);
        C.due("judge(0) in HOUR 3", x.judge(0), 0);
    }

    // ---- promise 28: tear

    static void p28_nothingToTear() {
        C.due("tear()", new WarmPlace().tear(), 0);
        C.due("tear()", still(2, 0, 1).tear(), 0);
    }

    static void p28_allOfBoth() {
        WarmPlace x = Check.full();
        C.due("tear()", x.tear(), 26);
        C.due("told(9)", x.told(9), 0);
        C.due("told(10)", x.told(10), 0);
        C.due("told(4): the text stays", x.told(4), 200);
        C.due("told(11): what can be undone stays", x.told(11), 30);
        C.due("tear() again", x.tear(), 0);
        for (int k = 1; k <= 6; k++) {
            C.due("morning(0, 0)", x.morning(0, 0), k);
        }
        C.due("morning(0, 0)", x.morning(0, 0), FULL);
        for (int k = 1; k <= 20; k++) {
            C.due("write(0)", x.write(0), k);
        }
        C.due("write(0)", x.write(0), FULL);
    }

    static void p28_oneOfTheTwo() {
        WarmPlace x = still(2, 0, 1);
        x.morning(0, 0);
        C.due("tear() of MORNING", x.tear(), 1);
        x.write(0);
        C.due("tear() of THE BOOK", x.tear(), 1);
    }
}
