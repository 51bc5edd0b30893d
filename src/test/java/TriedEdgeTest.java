/**
 * Promises 15 to 22 and what section 3 of the terms says of them, boundary cases: a test for each sentence
 * that names one. The number in a test's name is the promise's.
 */
public final class TriedEdgeTest {
    private static final Check C = new Check();
    private static final int NONE = WarmPlace.NONE, UNKNOWN = WarmPlace.UNKNOWN, OUTSIDE = WarmPlace.OUTSIDE;
    private static final int NOT = WarmPlace.NOT;
    private static final int LEAST = Integer.MIN_VALUE, MOST = Integer.MAX_VALUE;
    /** Only 0 and then four turns let both sleep for five hours: no rhyme of four WORDS says that. */
    private static final String FIVE = "b2 0;h0 9;s6 0 5 2;s11 0 4 6;";

    public static void main(String[] args) throws ReflectiveOperationException {
        C.runNumbered(TriedEdgeTest.class);
        C.end("TriedEdgeTest");
    }

    // ---- promise 15: firstAwake

    static void p15_what0And1() {
        C.refused(Check::rich, "firstAwake(-1)", x -> x.firstAwake(-1), OUTSIDE);
        C.refused(Check::rich, "firstAwake(2)", x -> x.firstAwake(2), OUTSIDE);
        C.refused(Check::rich, "firstAwake(least)", x -> x.firstAwake(LEAST), OUTSIDE);
        C.refused(Check::rich, "firstAwake(most)", x -> x.firstAwake(MOST), OUTSIDE);
        C.refused(WarmPlace::new, "firstAwake(2)", x -> x.firstAwake(2), OUTSIDE);
    }

    static void p15_nothingChanges() {
        C.changesNothing(Check::rich, "firstAwake(0)", x -> x.firstAwake(0));
        C.changesNothing(Check::rich, "firstAwake(1)", x -> x.firstAwake(1));
    }

    private static void first(String text, int hours, int who) {
        WarmPlace x = C.bedOf(text);
        C.due("firstAwake(0) of " + text, x.firstAwake(0), hours);
        C.due("firstAwake(1) of " + text, x.firstAwake(1), who);
    }

    static void p15_in0Hours() {
        WarmPlace x = C.bedOf("b2 0;s9 0 0 1;s9 0 4 5;");
        C.due("firstAwake(0)", x.firstAwake(0), 1);
        x.hour(0);
        C.due("firstAwake(0) at K", x.firstAwake(0), 0);
        C.due("firstAwake(1) at K", x.firstAwake(1), 1);
    }

    static void p15_in99HoursNotIn100() {
        first("b2 0;s99 0 1 1;", 98, 0);
        first("b2 0;s99 0 1 0;", 99, 0);
        // one of four hours is cold: the 25th is the 99th or the 100th
        first("b4 0;h0 1;h1 1;h2 1;s25 0 1 0;r1;", 99, 0);
        first("b4 0;h1 1;h2 1;h3 1;s25 0 1 0;r1;", NONE, NONE);
    }

    static void p15_neverIsNone() {
        first("b2 0;s1 0 0 0;", NONE, NONE);
        first("b2 0;h0 9;s1 0 9 0;", NONE, NONE);
    }

    static void p15_nobodyIsNone() {
        first("b2 0;", NONE, NONE);
        C.due("firstAwake(0), all UP", Check.nobody().firstAwake(0), NONE);
        C.due("firstAwake(1), all UP", Check.nobody().firstAwake(1), NONE);
    }

    static void p15_whoIsUpIsNotAsked() {
        WarmPlace x = C.bedOf("b2 0;s5 0 1 4;s50 0 1 0;");
        x.getUp(0);
        C.due("firstAwake(0)", x.firstAwake(0), 50);
        C.due("firstAwake(1)", x.firstAwake(1), 1);
    }

    static void p15_ofLikeOnesTheLeast() {
        first("b6 0;s9 0 0 1;s9 0 0 1;s9 0 0 1;s9 0 0 1;s9 0 2 5;s9 0 2 5;", 2, 4);
        WarmPlace x = C.bedOf("b2 0;s9 0 2 5;s9 0 2 5;");
        x.hour(1);
        C.due("firstAwake(1), the least lies last", x.firstAwake(1), 0);
    }

    static void p15_theLawGoesOnBeyondItsLastWord() {
        // who turns once is cold in the next hour, too: in HOUR 2 of three
        WarmPlace x = C.bedOf("b2 0;h0 9;s9 0 9 0;r0,0,1;");
        C.due("firstAwake(0) in HOUR 0", x.firstAwake(0), 3);
        x.hour(0);
        C.due("firstAwake(0) in HOUR 1", x.firstAwake(0), 2);
        x.hour(0);
        C.due("firstAwake(0) in HOUR 2", x.firstAwake(0), 1);
        x.hour(0);
        C.due("firstAwake(0) in HOUR 3", x.firstAwake(0), 3);
    }

    // ---- promise 16: turnsFor

    static void p16_hoursFrom1To5() {
        C.refused(Check::rich, "turnsFor(0, -1)", x -> x.turnsFor(0, -1), OUTSIDE);
        C.refused(Check::rich, "turnsFor(6, -1)", x -> x.turnsFor(6, -1), OUTSIDE);
        C.refused(Check::rich, "turnsFor(-1, 0)", x -> x.turnsFor(-1, 0), OUTSIDE);
        C.refused(Check::rich, "turnsFor(least, 0)", x -> x.turnsFor(LEAST, 0), OUTSIDE);
        C.refused(Check::rich, "turnsFor(most, most)", x -> x.turnsFor(MOST, MOST), OUTSIDE);
        WarmPlace x = C.bedOf("b2 0;s50 0 1 1;");
        C.due("turnsFor(1, -1)", x.turnsFor(1, -1), 148);
        C.due("turnsFor(5, -1)", x.turnsFor(5, -1), 144);
    }

    static void p16_nobodyIsNot() {
        C.refused(Check::nobody, "turnsFor(1, -1)", x -> x.turnsFor(1, -1), NOT);
        C.refused(Check::nobody, "turnsFor(5, 0)", x -> x.turnsFor(5, 0), NOT);
        C.refused(() -> C.bedOf("b2 0;"), "turnsFor(1, -1) without SLEEPERS", x -> x.turnsFor(1, -1), NOT);
        C.refused(WarmPlace::new, "turnsFor(1, 0) without PLACES", x -> x.turnsFor(1, 0), NOT);
    }

    static void p16_outsideGoesBeforeNot() {
        C.refused(Check::nobody, "turnsFor(0, -1)", x -> x.turnsFor(0, -1), OUTSIDE);
        C.refused(Check::nobody, "turnsFor(6, -1)", x -> x.turnsFor(6, -1), OUTSIDE);
        C.refused(WarmPlace::new, "turnsFor(6, 0)", x -> x.turnsFor(6, 0), OUTSIDE);
    }

    static void p16_nothingChanges() {
        C.changesNothing(Check::rich, "turnsFor(5, -1)", x -> x.turnsFor(5, -1));
        C.changesNothing(Check::rich, "turnsFor(5, 4)", x -> x.turnsFor(5, 4));
    }

    private static void turns(WarmPlace x, int coldest, int... words) {
        int n = words.length;
        C.due("turnsFor(" + n + ", -1)", x.turnsFor(n, -1), coldest);
        for (int i = 0; i < n; i++) {
            C.due("turnsFor(" + n + ", " + i + ")", x.turnsFor(n, i), words[i]);
        }
    }

    static void p16_beyondTheRowIsNone() {
        WarmPlace x = C.bedOf("b2 0;s50 0 1 1;");
        for (int n = 1; n <= 5; n++) {
            C.due("turnsFor(n, last)", x.turnsFor(n, n - 1), 0);
            for (int i : new int[] {n, 5, 6, MOST, -2, LEAST}) {
                C.due("turnsFor(" + n + ", " + i + ")", x.turnsFor(n, i), NONE);
            }
        }
    }

    static void p16_awakeAtKIsAwake() {
        turns(C.bedOf("b2 0;s9 0 5 3;"), 101, 0);
        turns(C.bedOf("b2 0;s9 0 5 4;"), NONE, NONE);
        // behind the second hour
        turns(C.bedOf("b2 0;s9 0 4 0;"), 101, 0, 0);
        turns(C.bedOf("b2 0;s8 0 4 0;"), NONE, NONE, NONE);
        // behind the first of two: in the second it would be warm again
        turns(C.bedOf("b4 0;h2 9;s5 0 4 1;"), NONE, NONE, NONE);
        turns(C.bedOf("b4 0;h2 9;s6 0 4 1;"), 106, 1, 1);
    }

    static void p16_whoIsAwakeNowMaySleepBehindTheHours() {
        WarmPlace x = C.bedOf("b2 0;h1 9;s9 0 1 8;");
        x.hour(0);
        C.due("told(7)", x.told(7), 1);
        turns(x, 108, 1);
    }

    static void p16_rowsOfFive() {
        turns(C.bedOf(FIVE), 103, 0, 1, 1, 1, 1);
    }

    static void p16_ofLikeOnesTheFewestTurns() {
        // 1 1 and 2 0 both come to 99, 1 1 comes first, but has two turns
        turns(C.bedOf("b3 0;h1 5;h2 9;s86 0 0 1;"), 198, 2, 0);
        // all alike: none at all
        turns(C.bedOf("b6 1;" + "s50 1 1 1;".repeat(6)), 154, 0, 0, 0, 0, 0);
    }

    static void p16_ofLikeOnesTheFirstRow() {
        // in two PLACES 1, 2 and 3 are alike; in three 2 and 3 bring the first to the last
        turns(C.bedOf("b2 0;h1 9;s50 0 0 1;"), 158, 1);
        turns(C.bedOf("b3 0;h2 9;s50 0 0 1;"), 158, 2);
        // warm once is enough: 0 1 comes before 1 0
        turns(C.bedOf("b2 0;h1 9;s98 0 0 1;"), 198, 0, 1);
    }

    // ---- promise 17: rhyme

    static void p17_hoursFrom1To30() {
        C.refused(Check::rich, "rhyme(0, -1)", x -> x.rhyme(0, -1), OUTSIDE);
        C.refused(Check::rich, "rhyme(31, -1)", x -> x.rhyme(31, -1), OUTSIDE);
        C.refused(Check::rich, "rhyme(-1, 0)", x -> x.rhyme(-1, 0), OUTSIDE);
        C.refused(Check::rich, "rhyme(least, 0)", x -> x.rhyme(LEAST, 0), OUTSIDE);
        C.refused(Check::rich, "rhyme(most, most)", x -> x.rhyme(MOST, MOST), OUTSIDE);
        C.due("rhyme(1, -1)", Check.rich().rhyme(1, -1), 1);
    }

    static void p17_nobodyIsNot() {
        C.refused(Check::nobody, "rhyme(1, -1)", x -> x.rhyme(1, -1), NOT);
        C.refused(Check::nobody, "rhyme(30, 0)", x -> x.rhyme(30, 0), NOT);
        C.refused(() -> C.bedOf("b2 0;"), "rhyme(1, -1) without SLEEPERS", x -> x.rhyme(1, -1), NOT);
        C.refused(WarmPlace::new, "rhyme(1, 0) without PLACES", x -> x.rhyme(1, 0), NOT);
    }

    static void p17_outsideGoesBeforeNot() {
        C.refused(Check::nobody, "rhyme(0, -1)", x -> x.rhyme(0, -1), OUTSIDE);
        C.refused(Check::nobody, "rhyme(31, -1)", x -> x.rhyme(31, -1), OUTSIDE);
        C.refused(WarmPlace::new, "rhyme(31, 0)", x -> x.rhyme(31, 0), OUTSIDE);
    }

    static void p17_nothingChanges() {
        C.changesNothing(Check::rich, "rhyme(30, -1)", x -> x.rhyme(30, -1));
        C.changesNothing(Check::rich, "rhyme(30, 0)", x -> x.rhyme(30, 0));
    }

    private static void rhyme(WarmPlace x, int n, int... words) {
        C.due("rhyme(" + n + ", -1)", x.rhyme(n, -1), words.length);
        for (int i = 0; i < words.length; i++) {
            C.due("rhyme(" + n + ", " + i + ")", x.rhyme(n, i), words[i]);
        }
        for (int i : new int[] {words.length, 4, MOST, -2, LEAST}) {
            C.due("rhyme(" + n + ", " + i + ")", x.rhyme(n, i), NONE);
        }
    }

    private static void noRhyme(WarmPlace x, int n) {
        for (int i : new int[] {-1, 0, 1, 3, 4, -2}) {
            C.due("rhyme(" + n + ", " + i + ")", x.rhyme(n, i), NONE);
        }
    }

    static void p17_awakeBehindTheThirtiethHour() {
        rhyme(C.bedOf("b2 0;s31 0 1 0;"), 30, 0);
        rhyme(C.bedOf("b2 0;s30 0 1 0;"), 29, 0);
        noRhyme(C.bedOf("b2 0;s30 0 1 0;"), 30);
    }

    static void p17_awakeBehindTheFirstHour() {
        rhyme(C.bedOf("b2 0;s9 0 4 4;"), 1, 0);
        noRhyme(C.bedOf("b2 0;s9 0 4 5;"), 1);
    }

    static void p17_fourWordsNotFive() {
        rhyme(C.bedOf(FIVE), 1, 0);
        rhyme(C.bedOf(FIVE), 2, 0, 1);
        rhyme(C.bedOf(FIVE), 3, 0, 1, 1);
        rhyme(C.bedOf(FIVE), 4, 0, 1, 1, 1);
        noRhyme(C.bedOf(FIVE), 5);
        noRhyme(C.bedOf(FIVE), 30);
    }

    static void p17_theShortestGoesBeforeTheFirst() {
        // 1 is shorter than 0 1, which comes first as a row
        rhyme(C.bedOf("b2 0;h0 9;s10 0 4 5;s10 0 4 5;"), 2, 1);
    }

    static void p17_ofLikeOnesTheFirst() {
        rhyme(C.bedOf("b2 0;s50 0 0 1;"), 30, 0);
        rhyme(C.bedOf("b3 0;h2 9;s3 0 2 1;"), 1, 2);
    }

    static void p17_fromNowOnNotByTheHour() {
        WarmPlace x = C.bedOf("b2 0;h0 9;s11 0 4 2;s6 0 7 2;");
        x.hour(1);
        C.looks("HOUR 1", x, "1 0 | 7 8");
        // a turn first wakes the second, two hours of staying the first
        rhyme(x, 2, 0, 1);
    }

    // ---- promise 18: laid

    static void p18_hoursFrom1To9() {
        C.refused(Check::rich, "laid(0, -1)", x -> x.laid(0, -1), OUTSIDE);
        C.refused(Check::rich, "laid(10, -1)", x -> x.laid(10, -1), OUTSIDE);
        C.refused(Check::rich, "laid(-1, 0)", x -> x.laid(-1, 0), OUTSIDE);
        C.refused(Check::rich, "laid(least, 0)", x -> x.laid(LEAST, 0), OUTSIDE);
        C.refused(Check::rich, "laid(most, most)", x -> x.laid(MOST, MOST), OUTSIDE);
        C.refused(Check::nobody, "laid(0, -1)", x -> x.laid(0, -1), OUTSIDE);
        C.refused(WarmPlace::new, "laid(10, 0)", x -> x.laid(10, 0), OUTSIDE);
        WarmPlace x = C.bedOf("b2 0;s50 0 1 1;");
        C.due("laid(1, -1)", x.laid(1, -1), 148);
        C.due("laid(9, -1)", x.laid(9, -1), 140);
    }

    static void p18_nothingChanges() {
        C.changesNothing(Check::rich, "laid(9, -1)", x -> x.laid(9, -1));
        C.changesNothing(Check::rich, "laid(9, 1)", x -> x.laid(9, 1));
    }

    static void p18_nobodyIsNone() {
        for (int i : new int[] {-1, 0, 1, -2, MOST, LEAST}) {
            C.due("laid(1, " + i + "), all UP", Check.nobody().laid(1, i), NONE);
            C.due("laid(9, " + i + ") without SLEEPERS", C.bedOf("b2 0;").laid(9, i), NONE);
            C.due("laid(9, " + i + ") without PLACES", new WarmPlace().laid(9, i), NONE);
        }
    }

    private static void laid(WarmPlace x, int n, int coldest, int... who) {
        C.due("laid(" + n + ", -1)", x.laid(n, -1), coldest);
        for (int i = 0; i < who.length; i++) {
            C.due("laid(" + n + ", " + i + ")", x.laid(n, i), who[i]);
        }
        for (int i : new int[] {who.length, 6, MOST, -2, LEAST}) {
            C.due("laid(" + n + ", " + i + ")", x.laid(n, i), NONE);
        }
    }

    static void p18_one() {
        laid(C.bedOf("b6 1;h5 9;s50 9 1 1;"), 1, 148, 0);
    }

    static void p18_theLastOrderOfSix() {
        // what the one lacks its PLACE has: all come to 20 above K by this order alone
        laid(C.bedOf("b6 0;h1 1;h2 2;h3 3;h4 4;h5 5;s16 0 0 1;s17 0 0 1;s18 0 0 1;s19 0 0 1;s20 0 0 1;s21 0 0 1;"),
            1, 120, 5, 4, 3, 2, 1, 0);
    }

    static void p18_ofLikeOnesTheFirstRow() {
        WarmPlace x = C.bedOf("b6 1;" + "s50 1 1 1;".repeat(6));
        laid(x, 9, 158, 0, 1, 2, 3, 4, 5);
        x.hour(1);
        C.lies("turned", x, "5 0 1 2 3 4");
        laid(x, 1, 151, 0, 1, 2, 3, 4, 5);
    }

    static void p18_onlyInPlacesThatAreTaken() {
        // the warm PLACE is empty and stays so
        laid(C.bedOf("b3 0;h2 9;s50 0 1 1;s40 0 1 1;"), 1, 138, 0, 1);
        // of the taken PLACES the i-th has the i-th: the colder one comes to the first, which is warm
        WarmPlace x = C.bedOf("b4 0;h0 9;s40 0 1 1;s50 0 1 1;s50 0 1 1;");
        x.hour(2);
        x.hour(2);
        C.lies("turned", x, "2 - 0 1");
        laid(x, 1, 145, 0, 1, 2);
        x.getUp(1);
        C.lies("one UP", x, "2 - 0 -");
        laid(x, 1, 145, 0, 2);
    }

    static void p18_warmthFrom0To99() {
        laid(C.bedOf("b2 0;s50 0 20 49;"), 9, 51, 0);
        laid(C.bedOf("b2 0;h0 9;s90 0 0 0;"), 1, 199, 0);
        laid(C.bedOf("b2 0;h0 9;s90 0 0 0;"), 9, 199, 0);
        laid(C.bedOf("b2 0;s99 0 20 98;"), 9, 2, 0);
    }

    static void p18_theAwakeAreLaidToo() {
        laid(C.bedOf("b2 0;s10 0 20 9;s10 0 20 8;"), 1, 91, 0, 1);
    }

    // ---- promise 19: change

    static void p19_nothingChanges() {
        C.changesNothing(Check::rich, "change(-1)", x -> x.change(-1));
        C.changesNothing(Check::rich, "change(0)", x -> x.change(0));
    }

    private static void noPair(WarmPlace x) {
        C.due("change(-1)", x.change(-1), 0);
        for (int i : new int[] {0, 1, 14, 15, 36, MOST, -2, LEAST}) {
            C.due("change(" + i + ")", x.change(i), NONE);
        }
    }

    static void p19_nobodyAndOne() {
        noPair(new WarmPlace());
        noPair(C.bedOf("b2 0;"));
        noPair(C.bedOf("b6 1;h5 9;s50 1 1 1;"));
        noPair(Check.nobody());
    }

    static void p19_asMuchIsNotMore() {
        noPair(C.bedOf("b2 0;s50 1 1 1;s50 1 1 1;"));
        noPair(C.bedOf("b6 1;" + "s50 1 1 1;".repeat(6)));
        // both have 99 or 0, whatever they do
        noPair(C.bedOf("b2 0;h0 9;h1 8;s99 9 0 1;s99 9 0 1;"));
        noPair(C.bedOf("b2 0;h0 1;s1 0 20 0;s1 0 20 0;"));
    }

    static void p19_whatOneGainsTheOtherLoses() {
        noPair(C.bedOf("b2 0;h0 9;s50 9 1 1;s50 0 9 1;"));
        noPair(C.bedOf("b3 1;h0 9;h1 4;s50 9 1 1;s50 0 9 1;s50 4 4 4;"));
        noPair(C.bedOf("b6 0;h0 9;h3 4;s50 9 1 1;s50 0 9 1;s50 5 5 5;s50 3 3 3;s50 1 2 3;s50 4 4 4;"));
        noPair(C.bedOf("b6 1;h0 9;h3 4;s50 9 1 1;s50 0 9 1;s50 5 5 5;s50 3 3 3;s50 1 2 3;s50 4 4 4;"));
    }

    // ---- promise 20: steady

    static void p20_sleepersThatThereAreNot() {
        C.refused(Check::rich, "steady(-2)", x -> x.steady(-2), UNKNOWN);
        C.refused(Check::rich, "steady(3)", x -> x.steady(3), UNKNOWN);
        C.refused(Check::rich, "steady(least)", x -> x.steady(LEAST), UNKNOWN);
        C.refused(Check::rich, "steady(most)", x -> x.steady(MOST), UNKNOWN);
        C.refused(() -> C.bedOf("b2 0;"), "steady(0) without SLEEPERS", x -> x.steady(0), UNKNOWN);
        C.due("steady(5) of six", C.bedOf("b6 0;" + "s99 0 0 1;".repeat(6)).steady(5), 0);
    }

    static void p20_noPlacesIsNot() {
        C.refused(WarmPlace::new, "steady(-1)", x -> x.steady(-1), NOT);
    }

    static void p20_unknownGoesBeforeNot() {
        C.refused(WarmPlace::new, "steady(0)", x -> x.steady(0), UNKNOWN);
        C.refused(WarmPlace::new, "steady(-2)", x -> x.steady(-2), UNKNOWN);
    }

    static void p20_nothingChanges() {
        C.changesNothing(Check::rich, "steady(-1)", x -> x.steady(-1));
        C.changesNothing(Check::rich, "steady(0)", x -> x.steady(0));
    }

    private static void steady(WarmPlace x, int rounds, int... hours) {
        C.due("steady(-1)", x.steady(-1), rounds);
        for (int s = 0; s < hours.length; s++) {
            C.due("steady(" + s + ")", x.steady(s), hours[s]);
        }
    }

    static void p20_asBehindNoRound() {
        steady(C.bedOf("b2 0;s99 0 0 1;"), 1, 1);
        steady(C.bedOf("b2 0;s50 0 0 1;s50 0 0 1;r1;"), 2, 1, 1);
        steady(C.bedOf("b2 0;s50 0 0 1;s50 0 0 1;r1,1;"), 1, 1, 1);
    }

    static void p20_behind200RoundsNotBehind201() {
        // one of six hours is cold: WARMTH is 0 behind 194 hours and as it was behind 200; an hour later in the other bed
        steady(C.bedOf("b6 1;h0 1;h1 1;h3 1;h4 1;h5 1;s33 0 1 0;r1;"), 6, 1);
        steady(C.bedOf("b6 1;h0 1;h1 1;h2 1;h4 1;h5 1;s33 0 1 0;r1;"), NONE, NONE);
    }

    static void p20_roundsAreAllWordsOfTheLaw() {
        // the same bed with two WORDS: half as many rounds
        steady(C.bedOf("b6 1;h0 1;h1 1;h3 1;h4 1;h5 1;s33 0 1 0;r1,1;"), 3, 1);
        steady(C.bedOf("b6 1;h0 1;h1 1;h2 1;h4 1;h5 1;s33 0 1 0;r1,1;"), 3, 1);
        // eight WORDS, five of them turns: six rounds come to 30 turns, five times round
        steady(C.bedOf("b6 1;s50 0 0 1;r1,1,1,1,1,0,0,0;"), 6, 8);
    }

    static void p20_whoIsUpNeverLiesByTheChimney() {
        WarmPlace x = C.bedOf("b2 0;s98 0 1 0;s50 0 0 1;");
        x.getUp(0);
        steady(x, 1, 0, 1);
        WarmPlace y = C.bedOf("b2 0;s99 0 1 0;s99 0 0 0;r0,1;");
        y.getUp(0);
        steady(y, 2, 0, 2);
    }

    static void p20_nobodyIsSteady() {
        steady(C.bedOf("b2 0;r1,2,3;"), 1);
        // both UP: who has 0 has it in every round
        steady(Check.nobody(), 1, 0, 0);
    }

    static void p20_ofLikePlacesTheLeast() {
        steady(C.bedOf("b3 0;h1 5;h2 5;s99 0 0 1;s99 0 0 1;s99 0 0 1;"), 1, 0, 1, 0);
        // no HEAT at all: the first PLACE
        steady(C.bedOf("b3 0;s99 0 0 1;s99 0 0 1;s99 0 0 1;"), 1, 1, 0, 0);
        // the last PLACE
        steady(C.bedOf("b3 0;h0 8;h2 9;s99 0 0 1;s99 0 0 1;s99 0 0 1;"), 1, 0, 0, 1);
    }

    static void p20_hoursOfTheRoundAloneNotOfThoseBefore() {
        // 40 hours to come to 0, then one hour is as the other
        steady(C.bedOf("b2 0;s40 0 1 0;"), 1, 1);
    }

    // ---- promise 21: twoBeds

    static void p21_what0And1() {
        C.refused(Check::rich, "twoBeds(-1)", x -> x.twoBeds(-1), OUTSIDE);
        C.refused(Check::rich, "twoBeds(2)", x -> x.twoBeds(2), OUTSIDE);
        C.refused(Check::rich, "twoBeds(least)", x -> x.twoBeds(LEAST), OUTSIDE);
        C.refused(Check::rich, "twoBeds(most)", x -> x.twoBeds(MOST), OUTSIDE);
        C.refused(WarmPlace::new, "twoBeds(2)", x -> x.twoBeds(2), OUTSIDE);
    }

    static void p21_nothingChanges() {
        C.changesNothing(Check::rich, "twoBeds(0)", x -> x.twoBeds(0));
        C.changesNothing(Check::rich, "twoBeds(1)", x -> x.twoBeds(1));
    }

    private static void beds(WarmPlace x, int unlike, int set) {
        C.due("twoBeds(0)", x.twoBeds(0), unlike);
        C.due("twoBeds(1)", x.twoBeds(1), set);
    }

    static void p21_nobodyIsNone() {
        beds(new WarmPlace(), NONE, NONE);
        beds(C.bedOf("b6 0;"), NONE, NONE);
    }

    static void p21_whoIsUpIsPartedToo() {
        beds(Check.nobody(), 2, 1);
    }

    static void p21_one() {
        beds(C.bedOf("b2 0;s9 0 1 1;"), 0, 1);
        beds(C.bedOf("b2 0;s9 9 1 1;"), 9, 1);
    }

    static void p21_theFirstIsInTheFirst() {
        beds(C.bedOf("b3 0;s9 9 1 1;s9 4 1 1;s9 5 1 1;"), 0, 1);
        beds(C.bedOf("b3 0;s9 4 1 1;s9 9 1 1;s9 5 1 1;"), 0, 5);
    }

    static void p21_allInOneBed() {
        // nobody gives anything but the first: whoever lies with it, the least SET has it alone
        beds(C.bedOf("b3 0;s9 9 1 1;s9 0 1 1;s9 0 1 1;"), 9, 1);
        // the first gives nothing, all the others are as unlike as can be without it
        beds(C.bedOf("b2 0;s9 0 1 1;s9 9 1 1;"), 9, 1);
    }

    static void p21_six() {
        beds(C.bedOf("b6 0;" + "s9 9 1 1;".repeat(6)), 0, 7);
        beds(C.bedOf("b6 0;s9 1 1 1;s9 1 1 1;s9 1 1 1;s9 1 1 1;s9 1 1 1;s9 9 1 1;"), 4, 31);
    }

    // ---- promise 22: nobodyUp

    static void p22_hoursFrom1To50() {
        C.refused(Check::rich, "nobodyUp(0, 0)", x -> x.nobodyUp(0, 0), OUTSIDE);
        C.refused(Check::rich, "nobodyUp(51, 0)", x -> x.nobodyUp(51, 0), OUTSIDE);
        C.refused(Check::rich, "nobodyUp(-1, 0)", x -> x.nobodyUp(-1, 0), OUTSIDE);
        C.refused(Check::rich, "nobodyUp(least, 0)", x -> x.nobodyUp(LEAST, 0), OUTSIDE);
        C.refused(Check::rich, "nobodyUp(most, 0)", x -> x.nobodyUp(MOST, 0), OUTSIDE);
        C.due("nobodyUp(1, 100)", C.bedOf("b2 0;s9 1 1 1;").nobodyUp(1, 100), 900000000);
        C.due("nobodyUp(50, 0)", C.bedOf("b2 0;s9 1 1 1;").nobodyUp(50, 0), 1000000000);
    }

    static void p22_ofAThousandFrom0To1000() {
        C.refused(Check::rich, "nobodyUp(1, -1)", x -> x.nobodyUp(1, -1), OUTSIDE);
        C.refused(Check::rich, "nobodyUp(1, 1001)", x -> x.nobodyUp(1, 1001), OUTSIDE);
        C.refused(Check::rich, "nobodyUp(50, least)", x -> x.nobodyUp(50, LEAST), OUTSIDE);
        C.refused(Check::rich, "nobodyUp(50, most)", x -> x.nobodyUp(50, MOST), OUTSIDE);
        C.refused(WarmPlace::new, "nobodyUp(1, 1001)", x -> x.nobodyUp(1, 1001), OUTSIDE);
        WarmPlace x = C.bedOf("b6 0;" + "s9 1 1 1;".repeat(6));
        C.due("nobodyUp(50, 0)", x.nobodyUp(50, 0), 1000000000);
        C.due("nobodyUp(1, 1000)", x.nobodyUp(1, 1000), 0);
        C.due("nobodyUp(50, 1000)", x.nobodyUp(50, 1000), 0);
    }

    static void p22_nothingChanges() {
        C.changesNothing(Check::rich, "nobodyUp(50, 1)", x -> x.nobodyUp(50, 1));
    }

    static void p22_cutToNothing() {
        WarmPlace x = C.bedOf("b2 0;s9 1 1 1;");
        C.due("nobodyUp(1, 999)", x.nobodyUp(1, 999), 1000000);
        C.due("nobodyUp(3, 999)", x.nobodyUp(3, 999), 1);
        C.due("nobodyUp(4, 999)", x.nobodyUp(4, 999), 0);
        C.due("nobodyUp(50, 999)", x.nobodyUp(50, 999), 0);
    }

    static void p22_cutForEachOneAndHour() {
        // 0.999 four times: 999000000, 998001000, 997002999, 996005996.001
        WarmPlace x = C.bedOf("b2 0;s9 1 1 1;s9 1 1 1;");
        C.due("nobodyUp(2, 1)", x.nobodyUp(2, 1), 996005996);
        WarmPlace six = C.bedOf("b6 0;" + "s9 1 1 1;".repeat(6));
        C.due("nobodyUp(10, 50)", six.nobodyUp(10, 50), 46069791);
    }

    static void p22_whoIsUpDoesNotGetUp() {
        C.due("nobodyUp(50, 1000), all UP", Check.nobody().nobodyUp(50, 1000), 1000000000);
        C.due("nobodyUp(50, 1000) without SLEEPERS", C.bedOf("b2 0;").nobodyUp(50, 1000), 1000000000);
        WarmPlace x = C.bedOf("b3 0;s9 1 1 1;s9 1 1 1;s9 1 1 1;");
        x.getUp(1);
        C.due("nobodyUp(1, 500) of two", x.nobodyUp(1, 500), 250000000);
    }
}
