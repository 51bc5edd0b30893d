/**
 * Promises 29 to 31 and what section 3 of the terms says of them, boundary cases: a test for each sentence
 * that names one. The number in a test's name is the promise's.
 */
public final class ImagesEdgeTest {
    private static final Check C = new Check();
    private static final int UNKNOWN = WarmPlace.UNKNOWN, OUTSIDE = WarmPlace.OUTSIDE, NOT = WarmPlace.NOT;
    private static final int LEAST = Integer.MIN_VALUE, MOST = Integer.MAX_VALUE;

    public static void main(String[] args) throws ReflectiveOperationException {
        C.runNumbered(ImagesEdgeTest.class);
        C.end("ImagesEdgeTest");
    }

    private static WarmPlace three() {
        return C.bedOf("b4 1;h0 5;s50 1 2 1;s51 3 4 1;s55 2 9 1;r1,2,3;");
    }

    // ---- promise 29: seed

    static void p29_from0To2147483647() {
        WarmPlace x = new WarmPlace();
        C.due("seed(0)", x.seed(0), 0);
        C.due("seed(2147483647)", x.seed(2147483647), 0);
        C.due("seed(2147483646)", x.seed(2147483646), 2147483647);
        C.due("seed(0)", x.seed(0), 2147483646);
        C.due("seed(0)", x.seed(0), 0);
    }

    static void p29_below0IsOutside() {
        C.refused(Check::rich, "seed(-1)", x -> x.seed(-1), OUTSIDE);
        C.refused(Check::rich, "seed(least)", x -> x.seed(LEAST), OUTSIDE);
        C.refused(WarmPlace::new, "seed(-1)", x -> x.seed(-1), OUTSIDE);
        WarmPlace x = new WarmPlace();
        x.seed(7);
        C.due("seed(-1)", x.seed(-1), OUTSIDE);
        C.due("seed(0)", x.seed(0), 7);
    }

    static void p29_theSeedComesRoundBelow2147483648() {
        WarmPlace x = three();
        x.seed(2147483647);
        long due = 2147483647L;
        for (int k = 0; k < 40; k++) {
            x.drift(1);
            due = (due * 1103515245L + 12345L) % 2147483648L;
            int was = x.seed(0);
            C.due("THE SEED", was, due);
            C.due("seed(what it was)", x.seed(was), 0);
        }
    }

    // ---- promise 30: keep

    static void p30_images0And1() {
        C.refused(Check::rich, "keep(-1)", x -> x.keep(-1), UNKNOWN);
        C.refused(Check::rich, "keep(2)", x -> x.keep(2), UNKNOWN);
        C.refused(Check::rich, "keep(least)", x -> x.keep(LEAST), UNKNOWN);
        C.refused(Check::rich, "keep(most)", x -> x.keep(MOST), UNKNOWN);
        C.refused(Check::full, "keep(2)", x -> x.keep(2), UNKNOWN);
        C.refused(WarmPlace::new, "keep(2)", x -> x.keep(2), UNKNOWN);
        C.due("keep(0)", three().keep(0), 1);
        C.due("keep(1)", three().keep(1), 1);
    }

    static void p30_nothingCanBeUndoneThen() {
        WarmPlace x = Check.full();
        C.due("told(11)", x.told(11), 30);
        C.due("keep(1)", x.keep(1), 1);
        C.due("told(11)", x.told(11), 0);
        C.due("undo(1)", x.undo(1), NOT);
        C.due("told(5)", x.told(5), 40);
    }

    static void p30_keptAgainTheOldIsGone() {
        WarmPlace x = three();
        x.keep(0);
        x.hour(1);
        String then = Check.look(x);
        x.keep(0);
        x.hour(1);
        x.goBack(0);
        C.looks("goBack(0)", x, then);
        C.due("told(5)", x.told(5), 1);
    }

    static void p30_whatComesLaterIsNotInIt() {
        WarmPlace x = three();
        x.getUp(0);
        x.seed(9);
        String then = Check.look(x);
        x.keep(1);
        x.comeIn(0);
        x.night(99);
        x.seed(10);
        x.goBack(1);
        C.looks("goBack(1)", x, then);
        C.due("told(5)", x.told(5), 0);
        C.due("told(6)", x.told(6), 1);
        C.due("seed(0)", x.seed(0), 9);
    }

    // ---- promise 31: goBack

    static void p31_images0And1() {
        C.refused(Check::rich, "goBack(-1)", x -> x.goBack(-1), UNKNOWN);
        C.refused(Check::rich, "goBack(2)", x -> x.goBack(2), UNKNOWN);
        C.refused(Check::rich, "goBack(least)", x -> x.goBack(LEAST), UNKNOWN);
        C.refused(Check::rich, "goBack(most)", x -> x.goBack(MOST), UNKNOWN);
    }

    static void p31_notKeptIsNot() {
        // IMAGE 0 is kept there, IMAGE 1 is not
        C.refused(Check::rich, "goBack(1)", x -> x.goBack(1), NOT);
        C.refused(Check::full, "goBack(0)", x -> x.goBack(0), NOT);
        C.refused(WarmPlace::new, "goBack(0)", x -> x.goBack(0), NOT);
        C.refused(WarmPlace::new, "goBack(1)", x -> x.goBack(1), NOT);
        C.due("goBack(0)", Check.rich().goBack(0), 1);
    }

    static void p31_unknownGoesBeforeNot() {
        C.refused(WarmPlace::new, "goBack(2)", x -> x.goBack(2), UNKNOWN);
        C.refused(WarmPlace::new, "goBack(-1)", x -> x.goBack(-1), UNKNOWN);
    }

    static void p31_nothingCanBeUndoneThen() {
        WarmPlace x = three();
        x.night(5);
        x.keep(0);
        x.night(40);
        C.due("told(11)", x.told(11), 30);
        C.due("goBack(0)", x.goBack(0), 1);
        C.due("told(11)", x.told(11), 0);
        C.due("undo(1)", x.undo(1), NOT);
        x.hour(0);
        C.due("undo(2)", x.undo(2), NOT);
        C.due("undo(1)", x.undo(1), 5);
    }

    static void p31_goneWithTheNextText() {
        WarmPlace x = three();
        x.keep(0);
        x.keep(1);
        Check.tell(x, "b");
        C.due("bed() with a FAULT", x.bed(), -11);
        C.due("goBack(1)", x.goBack(1), 1);
        C.due("bed() of an empty text", x.bed(), 0);
        C.due("goBack(0)", x.goBack(0), NOT);
        C.due("goBack(1)", x.goBack(1), NOT);
    }

    static void p31_againAndAgain() {
        WarmPlace x = three();
        x.night(3);
        x.getUp(1);
        x.seed(2147483647);
        String then = Check.look(x);
        x.keep(1);
        for (int k = 0; k < 3; k++) {
            x.drift(9);
            C.due("goBack(1)", x.goBack(1), 1);
            C.looks("goBack(1)", x, then);
            C.due("told(5)", x.told(5), 3);
            int was = x.seed(5);
            C.due("THE SEED", was, 2147483647);
        }
    }

    static void p31_morningAndBookAndTextStay() {
        WarmPlace x = three();
        x.keep(0);
        x.morning(0, 0);
        x.write(1);
        x.feed('b');
        x.goBack(0);
        C.due("told(9)", x.told(9), 1);
        C.due("told(10)", x.told(10), 1);
        C.due("told(4)", x.told(4), 1);
    }

    static void p31_theHourGoesBackToo() {
        WarmPlace x = C.bedOf("b6 0;s50 0 0 1;r0,1,2;");
        x.night(1);
        x.keep(0);
        x.night(4);
        x.goBack(0);
        x.night(1);
        C.due("HOUR 1 is of WORD 1", x.sleeper(0, 4), 1);
    }

    static void p31_withoutPlaces() {
        WarmPlace x = new WarmPlace();
        x.seed(5);
        C.due("keep(1)", x.keep(1), 1);
        x.seed(6);
        C.due("goBack(1)", x.goBack(1), 1);
        C.due("THE SEED", x.seed(0), 5);
        C.due("told(0)", x.told(0), 0);
    }
}
