import java.util.Arrays;

/**
 * Promises 9 to 14 and section 2 of the terms, boundary cases: a test for each sentence that names one.
 * The number in a test's name is the promise's.
 */
public final class HoursEdgeTest {
    private static final Check C = new Check();
    private static final int NONE = WarmPlace.NONE, UNKNOWN = WarmPlace.UNKNOWN, OUTSIDE = WarmPlace.OUTSIDE;
    private static final int NOT = WarmPlace.NOT, FULL = WarmPlace.FULL;
    private static final int LEAST = Integer.MIN_VALUE, MOST = Integer.MAX_VALUE;

    public static void main(String[] args) throws ReflectiveOperationException {
        C.runNumbered(HoursEdgeTest.class);
        C.end("HoursEdgeTest");
    }

    /** Nobody gains or loses here. */
    private static String bed(int places, int ring, int sleepers) {
        return "b" + places + " " + ring + ";" + "s50 0 0 1;".repeat(sleepers);
    }

    /** As it lies behind the WORDS, in a row and in a ring. */
    private static void turned(int places, int sleepers, String want, int... words) {
        for (int ring = 0; ring < 2; ring++) {
            WarmPlace x = C.bedOf(bed(places, ring, sleepers));
            for (int word : words) {
                x.hour(word);
            }
            C.lies("ring " + ring + " of " + places + " behind " + Arrays.toString(words), x, want);
        }
    }

    private static void anHour(String text, String want) {
        WarmPlace x = C.bedOf(text);
        x.hour(0);
        C.looks("an hour of " + text, x, want);
    }

    /** Beyond the 512 calls: nothing is promised there, but HOURS come above 90000 nowhere else. */
    private static WarmPlace at90000() {
        WarmPlace x = C.bedOf("b2 0;s50 1 1 1;s50 1 1 1;r0,1,2;");
        for (int k = 0; k < 909; k++) {
            x.night(99);
        }
        x.night(9);
        C.due("told(5)", x.told(5), 90000);
        return x;
    }

    private static WarmPlace above90000() {
        WarmPlace x = at90000();
        x.hour(0);
        C.due("told(5)", x.told(5), 90001);
        return x;
    }

    // ---- promise 9: hour

    static void p09_wordsFrom0To3() {
        C.refused(Check::rich, "hour(-1)", x -> x.hour(-1), UNKNOWN);
        C.refused(Check::rich, "hour(4)", x -> x.hour(4), UNKNOWN);
        C.refused(Check::rich, "hour(least)", x -> x.hour(LEAST), UNKNOWN);
        C.refused(Check::rich, "hour(most)", x -> x.hour(MOST), UNKNOWN);
        WarmPlace x = C.bedOf(bed(2, 0, 1));
        C.due("hour(0)", x.hour(0), 149);
        C.due("hour(3)", x.hour(3), 149);
        C.due("told(5)", x.told(5), 2);
    }

    static void p09_noPlacesIsNot() {
        C.refused(WarmPlace::new, "hour(0)", x -> x.hour(0), NOT);
        C.refused(WarmPlace::new, "hour(3)", x -> x.hour(3), NOT);
    }

    static void p09_unknownGoesBeforeNot() {
        C.refused(WarmPlace::new, "hour(4)", x -> x.hour(4), UNKNOWN);
        C.refused(WarmPlace::new, "hour(-1)", x -> x.hour(-1), UNKNOWN);
    }

    static void p09_ofNobodyNone() {
        WarmPlace x = Check.nobody();
        C.due("hour(1), all UP", x.hour(1), NONE);
        C.due("told(5)", x.told(5), 2);
        C.due("hour(1) without SLEEPERS", C.bedOf("b2 0;").hour(1), NONE);
    }

    static void p09_hoursAreNotFullWithin512Calls() {
        WarmPlace x = C.bedOf("b2 0;");
        for (int k = 0; k < 504; k++) {
            x.night(99);
        }
        C.due("told(5)", x.told(5), 49896);
        C.due("hour(0), the 512th call", x.hour(0), NONE);
    }

    static void p09_at90000OneMoreAbove90000Full() {
        WarmPlace x = at90000();
        C.due("hour(0) at 90000", x.hour(0), 149);
        String before = Check.facts(x);
        C.due("hour(0) at 90001", x.hour(0), FULL);
        C.due("hour(3) at 90001", x.hour(3), FULL);
        C.due("hour(4): UNKNOWN goes before FULL", x.hour(4), UNKNOWN);
        C.due("all as it was", Check.facts(x).equals(before) ? 1 : 0, 1);
    }

    static void p09_twoPlacesTurnAndChange() {
        turned(2, 2, "0 1", 0);
        for (int word = 1; word <= 3; word++) {
            turned(2, 2, "1 0", word);
            turned(2, 2, "0 1", word, word);
            turned(2, 1, "- 0", word);
            turned(2, 1, "0 -", 1, word);
        }
    }

    static void p09_threePlacesTurnAndChange() {
        turned(3, 3, "0 1 2", 0);
        turned(3, 3, "2 0 1", 1);
        turned(3, 3, "1 2 0", 2);
        turned(3, 3, "2 1 0", 3);
    }

    static void p09_sixPlacesTurnAndChange() {
        turned(6, 6, "5 0 1 2 3 4", 1);
        turned(6, 6, "1 2 3 4 5 0", 2);
        turned(6, 6, "5 1 2 3 4 0", 3);
        turned(6, 6, "0 1 2 3 4 5", 1, 1, 1, 1, 1, 1);
        turned(6, 6, "0 1 2 3 4 5", 2, 2, 2, 2, 2, 2);
        turned(6, 6, "0 1 2 3 4 5", 3, 3);
        turned(6, 6, "0 1 2 3 4 5", 1, 2);
    }

    static void p09_theLastPlaceIsEmpty() {
        turned(3, 2, "- 0 1", 1);
        turned(3, 2, "1 - 0", 2);
        turned(3, 2, "- 1 0", 3);
        turned(6, 5, "- 0 1 2 3 4", 1);
        turned(6, 5, "1 2 3 4 - 0", 2);
        turned(6, 5, "- 1 2 3 4 0", 3);
    }

    static void p09_theFirstPlaceIsEmpty() {
        turned(3, 2, "1 - 0", 1, 1);
        turned(3, 2, "0 1 -", 1, 2);
        turned(3, 2, "1 0 -", 1, 3);
        turned(6, 5, "4 - 0 1 2 3", 1, 1);
        turned(6, 5, "0 1 2 3 4 -", 1, 2);
        turned(6, 5, "4 0 1 2 3 -", 1, 3);
    }

    static void p09_bothEndsAreEmpty() {
        turned(4, 2, "- - 0 1", 1, 1);
        turned(4, 2, "0 1 - -", 1, 2);
        turned(4, 2, "- 0 1 -", 1, 3);
        turned(6, 0, "- - - - - -", 1, 2, 3);
    }

    static void p09_warmthIsAtMost99() {
        anHour("b2 0;h0 1;s97 0 0 1;", "0 - | 98");
        anHour("b2 0;h0 1;s98 0 0 1;", "0 - | 99");
        anHour("b2 0;h0 1;s99 0 0 1;", "0 - | 99");
        anHour("b3 0;h1 9;s99 9 0 1;s99 0 0 1;s99 9 0 1;", "0 1 2 | 99 99 99");
    }

    static void p09_warmthIsAtLeast0() {
        anHour("b2 0;s6 0 5 1;", "0 - | 1");
        anHour("b2 0;s5 0 5 1;", "0 - | 0");
        anHour("b2 0;s4 0 5 1;", "0 - | 0");
        anHour("b2 0;s1 0 20 0;", "0 - | 0");
    }

    static void p09_theBoundsAreOfTheWholeHour() {
        // not above 99 or below 0 in between: what comes and what is lost is one
        anHour("b2 0;h0 9;s99 0 5 1;", "0 - | 99");
        anHour("b2 0;h0 9;s99 0 9 1;", "0 - | 99");
        anHour("b2 0;h0 9;s1 0 9 0;", "0 - | 1");
        anHour("b2 0;h0 5;s2 0 9 1;", "0 - | 0");
    }

    static void p09_theTurnComesBeforeTheWarmth() {
        WarmPlace x = C.bedOf("b2 0;h1 9;s50 0 1 1;");
        C.due("hour(1)", x.hour(1), 157);
        C.due("hour(1) back", x.hour(1), 156);
    }

    static void p09_besideInARow() {
        anHour("b3 0;s50 1 0 1;s50 2 0 1;s50 4 0 1;", "0 1 2 | 52 55 52");
        anHour("b2 0;s50 1 0 1;s50 2 0 1;", "0 1 | 52 51");
    }

    static void p09_besideInARingOfThreeOrMore() {
        anHour("b3 1;s50 1 0 1;s50 2 0 1;s50 4 0 1;", "0 1 2 | 56 55 53");
        anHour("b4 1;s50 1 0 1;s50 2 0 1;s50 4 0 1;s50 8 0 1;", "0 1 2 3 | 60 55 60 55");
        anHour("b6 1;s50 1 0 1;s50 2 0 1;s50 4 0 1;s50 8 0 1;s50 0 0 1;s50 9 0 1;", "0 1 2 3 4 5 | 61 55 60 54 67 51");
    }

    static void p09_inARingOfTwoBesideIsOnce() {
        anHour("b2 1;s50 1 0 1;s50 2 0 1;", "0 1 | 52 51");
    }

    static void p09_nobodyIsBesideItself() {
        anHour("b2 1;s50 9 0 1;", "0 - | 50");
        anHour("b3 1;s50 9 0 1;", "0 - - | 50");
        anHour("b2 0;s50 9 0 1;", "0 - | 50");
    }

    static void p09_anEmptyPlaceGivesNothing() {
        anHour("b4 1;s50 1 0 1;s50 2 0 1;s50 4 0 1;", "0 1 2 - | 52 55 52");
        // the gap is in the middle: the ends are beside one another in a ring alone
        WarmPlace row = C.bedOf("b3 0;s50 1 0 1;s50 2 0 1;");
        row.hour(2);
        C.looks("a row with a gap", row, "1 - 0 | 50 50");
        WarmPlace ring = C.bedOf("b3 1;s50 1 0 1;s50 2 0 1;");
        ring.hour(2);
        C.looks("a ring with a gap", ring, "1 - 0 | 52 51");
    }

    static void p09_whoIsUpLosesTwiceThatAlone() {
        WarmPlace x = C.bedOf("b2 1;h0 9;h1 9;s50 9 5 1;s50 9 5 1;");
        x.getUp(0);
        x.hour(0);
        C.looks("0 is UP", x, "1 - | 40 54");
    }

    static void p09_whoIsUpHas0AtLeast() {
        for (int warmth = 9; warmth <= 11; warmth++) {
            WarmPlace x = C.bedOf("b2 0;s" + warmth + " 0 5 1;");
            x.getUp(0);
            C.due("hour(0)", x.hour(0), NONE);
            C.due("WARMTH of " + warmth, x.sleeper(0, 0), warmth == 11 ? 1 : 0);
        }
        WarmPlace none = C.bedOf("b2 0;s99 0 0 1;");
        none.getUp(0);
        none.night(99);
        C.due("who loses nothing", none.sleeper(0, 0), 99);
    }

    static void p09_coldestIsNever0() {
        WarmPlace x = C.bedOf("b2 0;s99 0 20 98;");
        C.due("hour(0)", x.hour(0), 81);
        C.due("night(3)", x.night(3), 21);
        C.due("hour(0)", x.hour(0), 2);
        C.due("hour(0)", x.hour(0), 2);
    }

    // ---- promise 10: night

    static void p10_hoursFrom1To99() {
        C.refused(Check::rich, "night(0)", x -> x.night(0), OUTSIDE);
        C.refused(Check::rich, "night(100)", x -> x.night(100), OUTSIDE);
        C.refused(Check::rich, "night(-1)", x -> x.night(-1), OUTSIDE);
        C.refused(Check::rich, "night(least)", x -> x.night(LEAST), OUTSIDE);
        C.refused(Check::rich, "night(most)", x -> x.night(MOST), OUTSIDE);
        WarmPlace x = C.bedOf("b2 0;s99 0 1 0;");
        C.due("night(1)", x.night(1), 198);
        C.due("told(5)", x.told(5), 1);
        WarmPlace y = C.bedOf("b2 0;s99 0 1 0;");
        C.due("night(98)", y.night(98), 101);
        WarmPlace z = C.bedOf("b2 0;s99 0 1 0;");
        C.due("night(99)", z.night(99), 100);
        C.due("told(5)", z.told(5), 99);
    }

    static void p10_noPlacesIsNot() {
        C.refused(WarmPlace::new, "night(1)", x -> x.night(1), NOT);
        C.refused(WarmPlace::new, "night(99)", x -> x.night(99), NOT);
    }

    static void p10_outsideGoesBeforeNot() {
        C.refused(WarmPlace::new, "night(0)", x -> x.night(0), OUTSIDE);
        C.refused(WarmPlace::new, "night(100)", x -> x.night(100), OUTSIDE);
    }

    static void p10_ofNobodyNone() {
        WarmPlace x = Check.nobody();
        C.due("night(99), all UP", x.night(99), NONE);
        C.due("told(5)", x.told(5), 100);
        C.due("night(1) without SLEEPERS", C.bedOf("b2 0;").night(1), NONE);
    }

    static void p10_above90000IsFull() {
        WarmPlace x = at90000();
        C.due("night(99) at 90000", x.night(99), 149);
        C.due("told(5)", x.told(5), 90099);
        WarmPlace y = above90000();
        String before = Check.facts(y);
        C.due("night(1) at 90001", y.night(1), FULL);
        C.due("night(99) at 90001", y.night(99), FULL);
        C.due("night(0): OUTSIDE goes before FULL", y.night(0), OUTSIDE);
        C.due("night(100): OUTSIDE goes before FULL", y.night(100), OUTSIDE);
        C.due("all as it was", Check.facts(y).equals(before) ? 1 : 0, 1);
        C.due("undo(1)", y.undo(1), 90000);
        C.due("night(1)", y.night(1), 149);
    }

    static void p10_theLawBeyondItsLastWord() {
        WarmPlace x = C.bedOf("b3 0;s50 0 0 1;r1,0,0,0,0,0,0,2;");
        int[] due = {1, 1, 1, 1, 1, 1, 1, 0, 1, 1, 1, 1, 1, 1, 1, 0, 1};
        for (int k = 0; k < due.length; k++) {
            x.night(1);
            C.due("PLACE behind " + (k + 1), x.sleeper(0, 4), due[k]);
        }
        WarmPlace y = C.bedOf("b3 0;s50 0 0 1;r1,0,0,0,0,0,0,2;");
        y.night(8);
        C.due("PLACE behind 8 at once", y.sleeper(0, 4), 0);
        y.night(9);
        C.due("PLACE behind 17 at once", y.sleeper(0, 4), 1);
    }

    static void p10_aLawOfOneWord() {
        WarmPlace x = C.bedOf("b3 0;s50 0 0 1;r1;");
        x.night(2);
        C.due("PLACE", x.sleeper(0, 4), 2);
        x.night(1);
        C.due("PLACE", x.sleeper(0, 4), 0);
        WarmPlace untold = C.bedOf("b3 0;s50 0 0 1;");
        untold.night(99);
        C.due("PLACE by THE LAW untold", untold.sleeper(0, 4), 0);
    }

    static void p10_theHourTellsTheWord() {
        WarmPlace x = C.bedOf("b6 0;s50 0 0 1;r0,1,2;");
        x.hour(0);
        x.night(1);
        C.due("HOUR 1: 1", x.sleeper(0, 4), 1);
        x.hour(0);
        x.night(1);
        C.due("HOUR 3: 0", x.sleeper(0, 4), 1);
        x.hour(0);
        x.night(1);
        C.due("HOUR 5: 2", x.sleeper(0, 4), 0);
        x.undo(5);
        C.due("told(5)", x.told(5), 1);
        x.night(1);
        C.due("HOUR 1 again: 1", x.sleeper(0, 4), 1);
    }

    // ---- promise 11: getUp

    static void p11_sleepersThatThereAreNot() {
        C.refused(Check::rich, "getUp(-1)", x -> x.getUp(-1), UNKNOWN);
        C.refused(Check::rich, "getUp(3)", x -> x.getUp(3), UNKNOWN);
        C.refused(Check::rich, "getUp(least)", x -> x.getUp(LEAST), UNKNOWN);
        C.refused(Check::rich, "getUp(most)", x -> x.getUp(MOST), UNKNOWN);
        C.refused(WarmPlace::new, "getUp(0)", x -> x.getUp(0), UNKNOWN);
        C.due("getUp(5) of six", C.bedOf(bed(6, 0, 6)).getUp(5), 5);
        C.due("getUp(6) of six", C.bedOf(bed(6, 0, 6)).getUp(6), UNKNOWN);
    }

    static void p11_whoIsUpIsNot() {
        C.refused(Check::rich, "getUp(1)", x -> x.getUp(1), NOT);
        C.refused(Check::nobody, "getUp(0)", x -> x.getUp(0), NOT);
        C.refused(Check::nobody, "getUp(1)", x -> x.getUp(1), NOT);
        C.refused(Check::nobody, "getUp(2)", x -> x.getUp(2), UNKNOWN);
    }

    private static void gone(int places, int sleepers, int word, int s, int from, String want) {
        for (int ring = 0; ring < 2; ring++) {
            WarmPlace x = C.bedOf(bed(places, ring, sleepers));
            x.hour(word);
            C.due("getUp(" + s + ")", x.getUp(s), from);
            C.lies("ring " + ring + " of " + places + " without " + s, x, want);
        }
    }

    static void p11_outOfTheFirstPlace() {
        gone(2, 2, 0, 0, 0, "1 -");
        gone(3, 3, 0, 0, 0, "1 2 -");
        gone(6, 6, 0, 0, 0, "1 2 3 4 5 -");
        gone(6, 5, 0, 0, 0, "1 2 3 4 - -");
    }

    static void p11_outOfTheLastPlace() {
        gone(2, 2, 0, 1, 1, "0 -");
        gone(3, 3, 0, 2, 2, "0 1 -");
        gone(6, 6, 0, 5, 5, "0 1 2 3 4 -");
        // the first is empty: nobody comes round to it, in a ring neither
        gone(3, 2, 1, 1, 2, "- 0 -");
    }

    static void p11_emptyPlacesMoveToo() {
        gone(3, 2, 1, 0, 1, "- 1 -");
        gone(3, 2, 2, 1, 0, "- 0 -");
        gone(4, 1, 1, 0, 1, "- - - -");
    }

    static void p11_theLastOneLeavesNobody() {
        WarmPlace x = C.bedOf(bed(2, 0, 1));
        C.due("getUp(0)", x.getUp(0), 0);
        C.due("told(8)", x.told(8), NONE);
        C.due("told(5): no hour", x.told(5), 0);
        C.due("told(11)", x.told(11), 1);
    }

    // ---- promise 12: comeIn

    static void p12_sleepersThatThereAreNot() {
        C.refused(Check::rich, "comeIn(-1)", x -> x.comeIn(-1), UNKNOWN);
        C.refused(Check::rich, "comeIn(3)", x -> x.comeIn(3), UNKNOWN);
        C.refused(Check::rich, "comeIn(least)", x -> x.comeIn(LEAST), UNKNOWN);
        C.refused(Check::rich, "comeIn(most)", x -> x.comeIn(MOST), UNKNOWN);
        C.refused(WarmPlace::new, "comeIn(0)", x -> x.comeIn(0), UNKNOWN);
    }

    static void p12_whoIsNotUpIsNot() {
        C.refused(Check::rich, "comeIn(0)", x -> x.comeIn(0), NOT);
        C.refused(Check::rich, "comeIn(2)", x -> x.comeIn(2), NOT);
        C.refused(Check::full, "comeIn(0): no PLACE is empty", x -> x.comeIn(0), NOT);
        C.refused(Check::full, "comeIn(2)", x -> x.comeIn(2), UNKNOWN);
    }

    static void p12_theLastEmptyPlaceIsTheLast() {
        WarmPlace x = C.bedOf(bed(6, 1, 6));
        x.getUp(0);
        C.due("comeIn(0)", x.comeIn(0), 5);
        C.lies("at the foot", x, "1 2 3 4 5 0");
        WarmPlace y = C.bedOf(bed(6, 1, 1));
        y.getUp(0);
        C.due("comeIn(0), all empty", y.comeIn(0), 5);
    }

    static void p12_theLastEmptyPlaceIsTheFirst() {
        WarmPlace x = C.bedOf(bed(3, 0, 3));
        x.getUp(0);
        x.hour(1);
        C.lies("turned", x, "- 1 2");
        C.due("comeIn(0)", x.comeIn(0), 0);
        C.lies("in", x, "0 1 2");
        C.due("comeIn(0) again", x.comeIn(0), NOT);
    }

    static void p12_theLastEmptyPlaceIsBetween() {
        WarmPlace x = C.bedOf(bed(4, 0, 3));
        x.getUp(1);
        x.hour(2);
        C.lies("turned", x, "2 - - 0");
        C.due("comeIn(1)", x.comeIn(1), 2);
        C.lies("in", x, "2 - 1 0");
    }

    static void p12_allComeInAgain() {
        WarmPlace x = C.bedOf(bed(6, 0, 6));
        for (int s = 0; s < 6; s++) {
            x.getUp(s);
        }
        for (int s = 0; s < 6; s++) {
            C.due("comeIn(" + s + ")", x.comeIn(s), 5 - s);
        }
        C.lies("all", x, "5 4 3 2 1 0");
        C.due("told(6)", x.told(6), 0);
        C.due("told(11)", x.told(11), 12);
    }

    // ---- promise 13: drift

    static void p13_hoursFrom1To99() {
        C.refused(Check::rich, "drift(0)", x -> x.drift(0), OUTSIDE);
        C.refused(Check::rich, "drift(100)", x -> x.drift(100), OUTSIDE);
        C.refused(Check::rich, "drift(-1)", x -> x.drift(-1), OUTSIDE);
        C.refused(Check::rich, "drift(least)", x -> x.drift(LEAST), OUTSIDE);
        C.refused(Check::rich, "drift(most)", x -> x.drift(MOST), OUTSIDE);
        WarmPlace x = C.bedOf("b2 0;s99 0 1 0;");
        C.due("drift(1)", x.drift(1), 198);
        C.due("told(5)", x.told(5), 1);
        WarmPlace y = C.bedOf("b2 0;s99 0 1 0;");
        C.due("drift(99)", y.drift(99), 100);
        C.due("told(5)", y.told(5), 99);
        C.due("told(11)", y.told(11), 30);
    }

    static void p13_noPlacesIsNot() {
        C.refused(WarmPlace::new, "drift(1)", x -> x.drift(1), NOT);
        C.refused(WarmPlace::new, "drift(99)", x -> x.drift(99), NOT);
    }

    static void p13_outsideGoesBeforeNot() {
        C.refused(WarmPlace::new, "drift(0)", x -> x.drift(0), OUTSIDE);
        C.refused(WarmPlace::new, "drift(100)", x -> x.drift(100), OUTSIDE);
    }

    static void p13_ofNobodyNone() {
        WarmPlace x = Check.nobody();
        C.due("drift(99), all UP", x.drift(99), NONE);
        C.due("told(5)", x.told(5), 100);
    }

    static void p13_above90000IsFull() {
        WarmPlace x = at90000();
        C.due("drift(99) at 90000", x.drift(99), 149);
        C.due("told(5)", x.told(5), 90099);
        WarmPlace y = above90000();
        y.seed(5);
        String before = Check.facts(y);
        C.due("drift(1) at 90001", y.drift(1), FULL);
        C.due("drift(99) at 90001", y.drift(99), FULL);
        C.due("drift(0): OUTSIDE goes before FULL", y.drift(0), OUTSIDE);
        C.due("drift(100): OUTSIDE goes before FULL", y.drift(100), OUTSIDE);
        C.due("all as it was", Check.facts(y).equals(before) ? 1 : 0, 1);
        C.due("THE SEED", y.seed(0), 5);
    }

    /** From these SEEDS the first DRAW of 6 is 0, 1, 2, 3, 4, 5; alone in the second of four PLACES, THE LAW says 1. */
    static void p13_drawsBelow4AreWordsElseTheLaws() {
        int[] seeds = {9, 5, 1, 11, 7, 3};
        int[] due = {1, 2, 0, 1, 2, 2};
        for (int k = 0; k < 6; k++) {
            WarmPlace x = C.bedOf(bed(4, 0, 1) + "r0,1;");
            x.hour(1);
            x.seed(seeds[k]);
            x.drift(1);
            C.due("PLACE by a DRAW of " + k, x.sleeper(0, 4), due[k]);
        }
        // 3 in the first PLACE
        WarmPlace y = C.bedOf(bed(4, 0, 1));
        y.seed(11);
        y.drift(1);
        C.due("PLACE by a DRAW of 3", y.sleeper(0, 4), 3);
    }

    static void p13_theSeedAt2147483647() {
        WarmPlace x = C.bedOf(bed(4, 0, 1) + "r1;");
        x.seed(2147483647);
        // 1043980748 / 65536 is 15929, left over by 6: 5, so THE LAW's
        C.due("drift(1)", x.drift(1), 149);
        C.due("THE SEED", x.seed(2147483647), 1043980748);
        C.due("PLACE", x.sleeper(0, 4), 1);
        // 5, 5, 4 (THE LAW's, thrice), 0, 1, 2, 2, 5 (THE LAW's)
        x.drift(3);
        C.due("PLACE behind three", x.sleeper(0, 4), 0);
        x.drift(2);
        C.due("PLACE behind five", x.sleeper(0, 4), 1);
        x.drift(2);
        C.due("PLACE behind seven", x.sleeper(0, 4), 3);
        x.drift(1);
        C.due("PLACE behind eight", x.sleeper(0, 4), 0);
        C.due("THE SEED behind eight", x.seed(0), 2101342199);
    }

    static void p13_theSeedAt0() {
        WarmPlace x = C.bedOf(bed(4, 0, 1) + "r1;");
        x.drift(1);
        C.due("PLACE by a DRAW of 0", x.sleeper(0, 4), 0);
        C.due("THE SEED", x.seed(0), 12345);
    }

    // ---- promise 14: undo

    static void p14_from1To30() {
        C.refused(Check::rich, "undo(0)", x -> x.undo(0), OUTSIDE);
        C.refused(Check::rich, "undo(31)", x -> x.undo(31), OUTSIDE);
        C.refused(Check::rich, "undo(-1)", x -> x.undo(-1), OUTSIDE);
        C.refused(Check::rich, "undo(least)", x -> x.undo(LEAST), OUTSIDE);
        C.refused(Check::rich, "undo(most)", x -> x.undo(MOST), OUTSIDE);
        C.refused(Check::full, "undo(31)", x -> x.undo(31), OUTSIDE);
    }

    static void p14_notSoManyIsNot() {
        C.refused(Check::rich, "undo(5) of four", x -> x.undo(5), NOT);
        C.refused(Check::rich, "undo(30) of four", x -> x.undo(30), NOT);
        C.refused(WarmPlace::new, "undo(1) of none", x -> x.undo(1), NOT);
        C.due("undo(4) of four", Check.rich().undo(4), 2);
    }

    static void p14_outsideGoesBeforeNot() {
        C.refused(WarmPlace::new, "undo(0)", x -> x.undo(0), OUTSIDE);
        C.refused(WarmPlace::new, "undo(31)", x -> x.undo(31), OUTSIDE);
    }

    static void p14_thirtyCanBeUndone() {
        WarmPlace x = C.bedOf("b2 0;h0 1;s50 0 2 1;r0,1;");
        x.night(30);
        C.due("told(11)", x.told(11), 30);
        C.due("undo(30)", x.undo(30), 0);
        C.looks("as at first", x, "0 - | 50");
        C.due("told(11)", x.told(11), 0);
        C.due("undo(1)", x.undo(1), NOT);
    }

    static void p14_of31HoursThirtyAreKept() {
        WarmPlace x = C.bedOf("b2 0;h0 1;s50 0 1 1;r1;");
        x.night(31);
        C.due("told(11)", x.told(11), 30);
        C.due("undo(30)", x.undo(30), 1);
        C.looks("behind one hour", x, "- 0 | 49");
        C.due("undo(1)", x.undo(1), NOT);
    }

    static void p14_of99HoursThirtyAreKept() {
        WarmPlace x = C.bedOf("b2 0;h0 1;s50 0 1 1;r1;");
        x.night(99);
        C.due("undo(29)", x.undo(29), 70);
        // of 70 hours every other one was cold
        C.looks("behind 70 hours", x, "0 - | 15");
        C.due("undo(2)", x.undo(2), NOT);
        C.due("undo(1)", x.undo(1), 69);
        C.looks("behind 69 hours", x, "- 0 | 15");
    }

    static void p14_undoneAndDoneAgainAndAgain() {
        WarmPlace x = C.bedOf("b2 0;h0 1;s99 0 1 1;r1;");
        for (int k = 1; k <= 6; k++) {
            x.night(25);
            C.due("undo(20)", x.undo(20), 5 * k);
            C.due("told(11)", x.told(11), Math.min(5 * k, 10));
            C.due("WARMTH", x.sleeper(0, 0), 99 - (5 * k + 1) / 2);
        }
    }

    static void p14_hoursOneByOne() {
        WarmPlace x = C.bedOf("b2 0;h0 1;s50 0 1 1;r1;");
        x.night(3);
        C.due("undo(1)", x.undo(1), 2);
        C.looks("behind two", x, "0 - | 49");
        x.drift(3);
        C.due("told(11)", x.told(11), 5);
        C.due("undo(3)", x.undo(3), 2);
        C.looks("behind two", x, "0 - | 49");
    }

    static void p14_gettingUpAndComingInAreEachOne() {
        WarmPlace x = C.bedOf("b3 0;s50 0 1 1;s60 0 1 1;");
        x.getUp(0);
        x.hour(0);
        x.comeIn(0);
        C.looks("in again", x, "1 - 0 | 48 59");
        C.due("told(11)", x.told(11), 3);
        C.due("undo(1)", x.undo(1), 1);
        C.looks("comeIn undone", x, "1 - - | 48 59");
        C.due("undo(1)", x.undo(1), 0);
        C.looks("hour undone", x, "1 - - | 50 60");
        C.due("undo(1)", x.undo(1), 0);
        C.looks("getUp undone", x, "0 1 - | 50 60");
    }

    static void p14_sinceTheTextOrImage() {
        WarmPlace x = C.bedOf("b2 0;s50 0 1 1;");
        x.night(5);
        x.keep(0);
        C.due("undo(1) behind keep", x.undo(1), NOT);
        x.night(2);
        C.due("undo(3) behind keep", x.undo(3), NOT);
        C.due("undo(2) behind keep", x.undo(2), 5);
        x.night(2);
        x.goBack(0);
        C.due("undo(1) behind goBack", x.undo(1), NOT);
        x.night(2);
        x.bed();
        C.due("undo(1) behind bed", x.undo(1), NOT);
    }

    static void p14_aTextWithAFaultUndoesNothing() {
        WarmPlace x = C.bedOf("b2 0;s50 0 1 1;");
        x.night(5);
        x.feed('x');
        C.due("bed()", x.bed(), -11);
        C.due("undo(5)", x.undo(5), 0);
    }

    static void p14_theSeedStays() {
        WarmPlace x = C.bedOf("b2 0;s50 0 1 1;");
        x.drift(1);
        C.due("undo(1)", x.undo(1), 0);
        C.due("seed(0)", x.seed(0), 12345);
    }

    static void p14_morningAndBookStay() {
        WarmPlace x = C.bedOf("b2 0;s50 0 1 1;");
        x.hour(0);
        x.morning(0, 0);
        x.write(1);
        x.undo(1);
        C.due("told(9)", x.told(9), 1);
        C.due("told(10)", x.told(10), 1);
    }
}
