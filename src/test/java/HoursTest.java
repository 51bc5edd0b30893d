/** Promises 9 to 14: hours, who gets up and comes in, what is undone. */
public final class HoursTest {
    private static final Check C = new Check();

    public static void main(String[] args) {
        words();
        warmth();
        rings();
        up();
        nights();
        gettingUp();
        comingIn();
        drifting();
        undoing();
        C.end("HoursTest");
    }

    private static void words() {
        WarmPlace x = C.bedOf("b4 0;s50 0 0 1;s51 0 0 1;s52 0 0 1;");
        C.due("hour(0)", x.hour(0), 149);
        C.looks("hour(0)", x, "0 1 2 - | 50 51 52");
        x.hour(1);
        C.looks("hour(1)", x, "- 0 1 2 | 50 51 52");
        x.hour(1);
        C.looks("hour(1) again", x, "2 - 0 1 | 50 51 52");
        x.hour(3);
        C.looks("hour(3)", x, "1 - 0 2 | 50 51 52");
        x.hour(2);
        C.looks("hour(2)", x, "- 0 2 1 | 50 51 52");
        x.hour(2);
        C.looks("hour(2) again", x, "0 2 1 - | 50 51 52");
        x.hour(3);
        C.looks("hour(3): the empty one, too", x, "- 2 1 0 | 50 51 52");
        C.due("HOURS", x.told(5), 7);
        WarmPlace y = C.bedOf("b2 1;s50 0 0 1;s51 0 0 1;");
        for (int word = 1; word <= 3; word++) {
            y.hour(word);
            C.looks("two: hour(" + word + ")", y, word == 2 ? "0 1 | 50 51" : "1 0 | 50 51");
        }
    }

    private static void warmth() {
        // the turn comes first, then the warmth of the new PLACE
        WarmPlace x = C.bedOf("b3 0;h2 9;s50 1 2 40;s60 3 4 50;s70 5 6 1;");
        C.due("hour(1)", x.hour(1), 116);
        // 2 0 1: 2 +1-6, 0 +5+3-2, 1 +9+1-4
        C.looks("hour(1)", x, "2 0 1 | 56 66 65");
    }

    private static void rings() {
        // HEAT 0; in a row those at the ends have one beside, in a ring two
        WarmPlace row = C.bedOf("b3 0;s50 1 0 1;s50 2 0 1;s50 4 0 1;");
        row.hour(0);
        C.looks("a row", row, "0 1 2 | 52 55 52");
        WarmPlace ring = C.bedOf("b3 1;s50 1 0 1;s50 2 0 1;s50 4 0 1;");
        ring.hour(0);
        C.looks("a ring", ring, "0 1 2 | 56 55 53");
        WarmPlace two = C.bedOf("b2 1;s50 1 0 1;s50 2 0 1;");
        two.hour(0);
        C.looks("a ring of two", two, "0 1 | 52 51");
        WarmPlace gap = C.bedOf("b4 1;s50 1 0 1;s50 2 0 1;s50 4 0 1;");
        gap.hour(0);
        C.looks("a ring with an empty one", gap, "0 1 2 - | 52 55 52");
        WarmPlace six = C.bedOf("b6 1;s50 1 0 1;s50 2 0 1;s50 4 0 1;s50 8 0 1;s50 0 0 1;s50 9 0 1;");
        six.hour(0);
        C.looks("a ring of six", six, "0 1 2 3 4 5 | 61 55 60 54 67 51");
    }

    private static void up() {
        WarmPlace x = C.bedOf("b3 1;h0 9;h1 9;h2 9;s50 9 4 1;s9 9 4 1;s95 9 9 1;");
        x.getUp(0);
        x.getUp(1);
        C.looks("two UP", x, "2 - - | 50 9 95");
        x.hour(0);
        C.looks("who is UP loses twice", x, "2 - - | 42 1 95");
        x.hour(0);
        C.looks("0 at least", x, "2 - - | 34 0 95");
        WarmPlace y = C.bedOf("b2 0;h0 9;s95 0 0 1;s5 0 9 1;");
        y.hour(0);
        C.looks("99 at most, 0 at least", y, "0 1 | 99 0");
        C.due("COLDEST of 0 with K 1", y.told(8), 99);
        y.getUp(0);
        y.getUp(1);
        C.due("hour(0) of nobody", y.hour(0), WarmPlace.NONE);
        C.due("HOURS", y.told(5), 2);
        WarmPlace z = C.bedOf("b2 0;");
        C.due("hour(1) without SLEEPERS", z.hour(1), WarmPlace.NONE);
        C.due("night(9) without SLEEPERS", z.night(9), WarmPlace.NONE);
        C.due("drift(9) without SLEEPERS", z.drift(9), WarmPlace.NONE);
        C.due("HOURS", z.told(5), 19);
    }

    private static void nights() {
        WarmPlace x = C.bedOf("b4 0;s50 0 1 1;s60 0 2 1;r1,3;");
        C.due("night(1)", x.night(1), 148);
        C.looks("night(1)", x, "- 0 1 - | 49 58");
        C.due("night(2)", x.night(2), 146);
        // 3 changes two empty ones, 1 turns
        C.looks("night(2)", x, "- - 0 1 | 47 54");
        x.hour(0);
        // HOUR 4: the first WORD again
        x.night(1);
        C.looks("HOUR 4 is the first WORD's", x, "1 - - 0 | 45 50");
        x.hour(0);
        // HOUR 6 again
        x.night(1);
        C.looks("HOUR 6 is the first WORD's", x, "0 1 - - | 43 46");
        C.due("night(99)", x.night(99), 99);
        C.due("HOURS", x.told(5), 106);
        C.due("30 can be undone", x.told(11), 30);
    }

    private static void gettingUp() {
        WarmPlace x = C.bedOf("b6 1;s50 0 0 1;s51 0 0 1;s52 0 0 1;s53 0 0 1;");
        x.hour(1);
        C.looks("at first", x, "- 0 1 2 3 - | 50 51 52 53");
        C.due("getUp(1)", x.getUp(1), 2);
        C.looks("getUp(1)", x, "- 0 2 3 - - | 50 51 52 53");
        C.due("getUp(0)", x.getUp(0), 1);
        C.looks("getUp(0)", x, "- 2 3 - - - | 50 51 52 53");
        C.due("getUp(3)", x.getUp(3), 2);
        C.looks("getUp(3)", x, "- 2 - - - - | 50 51 52 53");
        x.hour(2);
        x.hour(2);
        C.looks("to the last", x, "- - - - - 2 | 50 51 52 53");
        C.due("getUp(2)", x.getUp(2), 5);
        C.looks("getUp(2)", x, "- - - - - - | 50 51 52 53");
        C.due("HOURS", x.told(5), 3);
        WarmPlace y = C.bedOf("b4 0;s50 0 0 1;s51 0 0 1;s52 0 0 1;s53 0 0 1;");
        C.due("getUp(0) of four", y.getUp(0), 0);
        C.looks("all behind it move", y, "1 2 3 - | 50 51 52 53");
    }

    private static void comingIn() {
        WarmPlace x = C.bedOf("b5 0;s50 0 0 1;s51 0 0 1;s52 0 0 1;");
        x.getUp(0);
        C.due("comeIn(0)", x.comeIn(0), 4);
        C.looks("comeIn(0)", x, "1 2 - - 0 | 50 51 52");
        x.getUp(1);
        C.looks("getUp(1)", x, "2 - - 0 - | 50 51 52");
        x.hour(1);
        C.looks("turned", x, "- 2 - - 0 | 50 51 52");
        C.due("comeIn(1)", x.comeIn(1), 3);
        C.looks("comeIn(1): the last that is empty", x, "- 2 - 1 0 | 50 51 52");
        C.due("all are in", x.told(6), 0);
        WarmPlace y = C.bedOf("b2 0;s50 0 0 1;s51 0 0 1;");
        y.getUp(0);
        y.hour(1);
        C.looks("one is left", y, "- 1 | 50 51");
        C.due("comeIn(0) at the head", y.comeIn(0), 0);
        C.looks("comeIn(0) at the head", y, "0 1 | 50 51");
    }

    /** The draws from SEED 0, counted by the document's words: the seed's way is told with them. */
    private static void drifting() {
        long seed = 0;
        WarmPlace x = C.bedOf("b5 0;s50 0 0 1;s51 0 0 1;r2,3,1;");
        WarmPlace y = C.bedOf("b5 0;s50 0 0 1;s51 0 0 1;r2,3,1;");
        int[] law = {2, 3, 1};
        int lawful = 0;
        for (int k = 0; k < 24; k++) {
            seed = (seed * 1103515245L + 12345L) % 2147483648L;
            int drawn = (int) (seed / 65536 % 6);
            lawful += drawn >= 4 ? 1 : 0;
            x.drift(1);
            y.hour(drawn < 4 ? drawn : law[k % 3]);
            C.looks("drift " + k, x, Check.look(y));
        }
        C.due("some by THE LAW", lawful > 2 && lawful < 22 ? 1 : 0, 1);
        C.due("THE SEED", x.seed(0), seed);
        WarmPlace z = C.bedOf("b5 0;s50 0 0 1;s51 0 0 1;r2,3,1;");
        C.due("drift(24)", z.drift(24), 149);
        C.looks("drift(24)", z, Check.look(x));
        C.due("HOURS", z.told(5), 24);
        C.due("THE SEED", z.seed(2147483647), seed);
        z.drift(1);
        C.due("THE SEED behind the most", z.seed(0), (2147483647L * 1103515245L + 12345L) % 2147483648L);
    }

    private static void undoing() {
        WarmPlace x = C.bedOf("b4 0;h0 5;s50 1 2 1;s51 3 4 1;s5 2 9 1;r1;");
        String[] was = new String[8];
        was[0] = Check.look(x);
        x.hour(3);
        was[1] = Check.look(x);
        x.getUp(1);
        was[2] = Check.look(x);
        x.night(2);
        was[4] = Check.look(x);
        x.comeIn(1);
        was[5] = Check.look(x);
        x.drift(2);
        was[7] = Check.look(x);
        C.due("seven can be undone", x.told(11), 7);
        C.due("undo(8)", x.undo(8), WarmPlace.NOT);
        C.looks("undo(8)", x, was[7]);
        int seed = x.seed(5);
        C.due("undo(1)", x.undo(1), 4);
        C.due("undo(1)", x.undo(1), 3);
        C.looks("drift undone", x, was[5]);
        C.due("THE SEED stays", x.seed(seed), 5);
        C.due("undo(1)", x.undo(1), 3);
        C.looks("comeIn undone", x, was[4]);
        C.due("four are left", x.told(11), 4);
        C.due("undo(2)", x.undo(2), 1);
        C.looks("night undone", x, was[2]);
        C.due("undo(1)", x.undo(1), 1);
        C.looks("getUp undone", x, was[1]);
        C.due("undo(1)", x.undo(1), 0);
        C.looks("all undone", x, was[0]);
        C.due("undo(1)", x.undo(1), WarmPlace.NOT);
        C.due("none is left", x.told(11), 0);
        // what is undone can be done anew
        x.hour(3);
        C.looks("done anew", x, was[1]);
        C.due("undo(1)", x.undo(1), 0);
        x.night(99);
        C.due("30 at most", x.told(11), 30);
        C.due("undo(17)", x.undo(17), 82);
        C.due("13 are left", x.told(11), 13);
        x.night(5);
        C.due("undo(18)", x.undo(18), 69);
        C.due("undo(1)", x.undo(1), WarmPlace.NOT);
        WarmPlace y = C.bedOf("b4 0;h0 5;s50 1 2 1;s51 3 4 1;s5 2 9 1;r1;");
        y.night(69);
        C.looks("behind 69 hours", x, Check.look(y));
    }
}
