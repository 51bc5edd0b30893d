/** Promises 15 to 22: what is tried from now. */
public final class TriedTest {
    private static final Check C = new Check();

    public static void main(String[] args) {
        firstAwake();
        turns();
        rhymes();
        laid();
        change();
        steady();
        twoBeds();
        nobodyUp();
        C.end("TriedTest");
    }

    private static void firstAwake() {
        WarmPlace x = C.bedOf("b3 0;s9 0 1 5;s9 0 2 5;s9 0 2 5;");
        C.due("firstAwake(0)", x.firstAwake(0), 2);
        C.due("firstAwake(1): of like ones the least", x.firstAwake(1), 1);
        x.hour(3);
        C.due("firstAwake(0) an hour on", x.firstAwake(0), 1);
        C.due("firstAwake(1) an hour on", x.firstAwake(1), 1);
        x.hour(0);
        C.due("firstAwake(0) now", x.firstAwake(0), 0);
        C.due("firstAwake(1) now", x.firstAwake(1), 1);
        x.getUp(1);
        C.due("firstAwake(1) IN THE BED alone", x.firstAwake(1), 2);
        x.getUp(2);
        C.due("firstAwake(0) of one", x.firstAwake(0), 2);
        C.due("firstAwake(1) of one", x.firstAwake(1), 0);
        x.getUp(0);
        C.due("firstAwake(0) of nobody", x.firstAwake(0), WarmPlace.NONE);
        C.due("firstAwake(1) of nobody", x.firstAwake(1), WarmPlace.NONE);
        C.due("firstAwake(-1)", x.firstAwake(-1), WarmPlace.OUTSIDE);
        C.due("firstAwake(2)", x.firstAwake(2), WarmPlace.OUTSIDE);
        C.due("99 hours", C.bedOf("b2 0;s99 0 1 0;").firstAwake(0), 99);
        // two of four hours are in the cold PLACE: the fiftieth loss is behind 99 hours
        C.due("99 hours by THE LAW", C.bedOf("b2 0;h0 1;s50 0 1 0;r0,1;").firstAwake(0), 99);
        C.due("102 hours are too many", C.bedOf("b2 0;h0 1;s51 0 1 0;r0,1;").firstAwake(0), WarmPlace.NONE);
        // THE LAW goes on from the HOUR that is
        WarmPlace y = C.bedOf("b2 0;h0 9;s9 0 9 0;r0,0,1,0;");
        C.due("by THE LAW", y.firstAwake(0), 3);
        y.hour(0);
        C.due("by THE LAW, an hour on", y.firstAwake(0), 2);
    }

    private static void turns() {
        // alone in PLACE 0, HEAT in the last: 2 and 3 both bring it there
        WarmPlace x = C.bedOf("b3 0;h2 9;s50 0 1 1;");
        row(x, 1, 157, 2);
        row(x, 2, 165, 2, 0);
        row(x, 5, 189, 2, 0, 0, 0, 0);
        // all alike: no turns
        WarmPlace y = C.bedOf("b3 1;s50 1 1 1;s50 1 1 1;s50 1 1 1;");
        row(y, 5, 154, 0, 0, 0, 0, 0);
        // the PLACE by the chimney goes round, or one is AWAKE
        WarmPlace z = C.bedOf("b2 0;h0 9;s10 0 4 5;s10 0 4 5;");
        row(z, 1, 101, 0);
        row(z, 2, 106, 0, 1);
        row(z, 3, 102, 0, 1, 0);
        // who is AWAKE now, but behind no hour, is as good
        WarmPlace late = C.bedOf("b2 0;h1 9;s9 0 1 8;");
        late.hour(0);
        C.due("AWAKE now", late.told(7), 1);
        row(late, 1, 108, 1);
        // nobody can sleep
        WarmPlace cold = C.bedOf("b2 0;s9 0 5 6;");
        C.due("turnsFor(1, -1) of the cold", cold.turnsFor(1, -1), WarmPlace.NONE);
        C.due("turnsFor(1, 0) of the cold", cold.turnsFor(1, 0), WarmPlace.NONE);
        C.due("turnsFor(0, -1)", x.turnsFor(0, -1), WarmPlace.OUTSIDE);
        C.due("turnsFor(6, -1)", x.turnsFor(6, -1), WarmPlace.OUTSIDE);
        x.getUp(0);
        C.due("turnsFor(1, -1) of nobody", x.turnsFor(1, -1), WarmPlace.NOT);
        C.due("turnsFor(6, -1) of nobody", x.turnsFor(6, -1), WarmPlace.OUTSIDE);
    }

    private static void row(WarmPlace x, int n, int coldest, int... words) {
        C.due("turnsFor(" + n + ", -1)", x.turnsFor(n, -1), coldest);
        for (int i = 0; i < n; i++) {
            C.due("turnsFor(" + n + ", " + i + ")", x.turnsFor(n, i), words[i]);
        }
        C.due("turnsFor(" + n + ", " + n + ")", x.turnsFor(n, n), WarmPlace.NONE);
        C.due("turnsFor(" + n + ", -2)", x.turnsFor(n, -2), WarmPlace.NONE);
    }

    private static void rhyme(WarmPlace x, int n, int... words) {
        C.due("rhyme(" + n + ", -1)", x.rhyme(n, -1), words.length);
        for (int i = 0; i < words.length; i++) {
            C.due("rhyme(" + n + ", " + i + ")", x.rhyme(n, i), words[i]);
        }
        C.due("rhyme(" + n + ", " + words.length + ")", x.rhyme(n, words.length), WarmPlace.NONE);
        C.due("rhyme(" + n + ", -2)", x.rhyme(n, -2), WarmPlace.NONE);
    }

    private static void rhymes() {
        WarmPlace x = C.bedOf("b2 0;h0 9;s10 0 4 5;s10 0 4 5;");
        rhyme(x, 1, 0);
        rhyme(x, 2, 1);
        rhyme(x, 30, 1);
        // the first must lie warm in the first hour, then they take turns; [0, 1] and [0, 1, 1] wake one
        WarmPlace y = C.bedOf("b2 0;h0 9;s7 0 4 4;s10 0 4 5;");
        rhyme(y, 1, 0);
        rhyme(y, 2, 0, 1);
        rhyme(y, 3, 0, 1, 1);
        rhyme(y, 4, 0, 1, 1, 1);
        rhyme(y, 30, 0, 1, 1, 1);
        WarmPlace z = C.bedOf("b2 0;s9 0 1 5;");
        rhyme(z, 3, 0);
        C.due("rhyme(4, -1)", z.rhyme(4, -1), WarmPlace.NONE);
        C.due("rhyme(4, 0)", z.rhyme(4, 0), WarmPlace.NONE);
        C.due("rhyme(0, -1)", x.rhyme(0, -1), WarmPlace.OUTSIDE);
        C.due("rhyme(31, -1)", x.rhyme(31, -1), WarmPlace.OUTSIDE);
        x.getUp(0);
        x.getUp(1);
        C.due("rhyme(1, -1) of nobody", x.rhyme(1, -1), WarmPlace.NOT);
        C.due("rhyme(31, -1) of nobody", x.rhyme(31, -1), WarmPlace.OUTSIDE);
    }

    private static void order(WarmPlace x, int n, int coldest, int... who) {
        C.due("laid(" + n + ", -1)", x.laid(n, -1), coldest);
        for (int i = 0; i < who.length; i++) {
            C.due("laid(" + n + ", " + i + ")", x.laid(n, i), who[i]);
        }
        C.due("laid(" + n + ", " + who.length + ")", x.laid(n, who.length), WarmPlace.NONE);
        C.due("laid(" + n + ", -2)", x.laid(n, -2), WarmPlace.NONE);
    }

    private static void laid() {
        WarmPlace x = C.bedOf("b2 0;h0 9;s10 0 0 1;s10 0 0 5;");
        order(x, 1, 109, 1, 0);
        order(x, 9, 109, 1, 0);
        // of like ones the first row
        order(C.bedOf("b3 0;s9 1 1 1;s9 1 1 1;s9 1 1 1;"), 1, 108, 0, 1, 2);
        // PLACES that are taken now, the empty one is left
        WarmPlace y = C.bedOf("b4 0;h0 9;h3 9;s10 0 0 1;s10 0 0 5;");
        y.hour(2);
        C.looks("turned", y, "1 - - 0 | 19 19");
        order(y, 1, 123, 0, 1);
        y.hour(2);
        C.looks("turned again", y, "- - 0 1 | 19 28");
        order(y, 1, 123, 1, 0);
        // who is AWAKE may be laid, too
        order(C.bedOf("b2 0;s10 0 20 9;s10 0 20 8;"), 1, 91, 0, 1);
        y.getUp(0);
        order(y, 1, 123, 1);
        y.getUp(1);
        order(y, 1, WarmPlace.NONE);
        C.due("laid(0, -1)", x.laid(0, -1), WarmPlace.OUTSIDE);
        C.due("laid(10, -1)", x.laid(10, -1), WarmPlace.OUTSIDE);
        C.due("laid(0, -1) of nobody", y.laid(0, -1), WarmPlace.OUTSIDE);
    }

    /** What one gains by a change the other loses, so that there never is a pair; like ones would have as much, not more. */
    private static void change() {
        String[] texts = {"b2 0;s9 1 1 1;s9 1 1 1;", "b6 1;h0 9;h3 4;s50 9 1 1;s50 0 9 1;s50 5 5 5;s50 3 3 3;s50 1 2 3;s50 4 4 4;",
            "b5 0;h0 9;h3 4;s98 9 1 1;s99 0 0 1;s5 5 20 3;s5 3 20 3;", "b3 1;h1 9;"};
        for (String text : texts) {
            WarmPlace x = C.bedOf(text);
            for (int k = 0; k < 12; k++) {
                C.due("change(-1) of " + text, x.change(-1), 0);
                C.due("change(0) of " + text, x.change(0), WarmPlace.NONE);
                C.due("change(-2) of " + text, x.change(-2), WarmPlace.NONE);
                x.hour(k % 4);
            }
        }
    }

    private static void steady() {
        WarmPlace x = C.bedOf("b3 0;h1 5;h2 5;s50 0 0 1;s50 0 0 1;s50 0 0 1;r1;");
        // all come to 99, then go round by three
        C.due("steady(-1)", x.steady(-1), 3);
        for (int s = 0; s < 3; s++) {
            C.due("steady(" + s + ")", x.steady(s), 1);
        }
        WarmPlace still = C.bedOf("b3 0;h1 5;h2 5;s99 0 0 1;s99 0 0 1;s99 0 0 1;r0,0;");
        C.due("steady(-1) at once", still.steady(-1), 1);
        C.due("steady(0) at once", still.steady(0), 0);
        C.due("steady(1): of like ones the least PLACE", still.steady(1), 2);
        C.due("steady(2): of like ones the least PLACE", still.steady(2), 0);
        // a round of 1, 2 comes back: only behind the first of its hours one lies by the chimney
        WarmPlace back = C.bedOf("b3 0;h1 9;s99 0 0 1;s99 0 0 1;r1,2;");
        C.due("steady(-1) of 1, 2", back.steady(-1), 1);
        C.due("steady(0) of 1, 2", back.steady(0), 1);
        C.due("steady(1) of 1, 2", back.steady(1), 1);
        back.hour(1);
        C.due("steady(0) of 2, 1", back.steady(0), 1);
        C.due("steady(1) of 2, 1", back.steady(1), 1);
        back.hour(2);
        back.getUp(0);
        C.due("steady(0) who is UP", back.steady(0), 0);
        C.due("steady(1) alone", back.steady(1), 1);
        // WARMTH goes down by one in six hours: it is 0 behind 194 hours, and as it was behind 200
        WarmPlace slow = C.bedOf("b6 1;h0 1;h1 1;h3 1;h4 1;h5 1;s33 0 1 0;r1;");
        C.due("steady(-1) behind 200", slow.steady(-1), 6);
        C.due("steady(0) behind 200", slow.steady(0), 1);
        WarmPlace slower = C.bedOf("b6 1;h0 1;h1 1;h2 1;h4 1;h5 1;s33 0 1 0;r1;");
        C.due("steady(-1) behind 201", slower.steady(-1), WarmPlace.NONE);
        C.due("steady(0) behind 201", slower.steady(0), WarmPlace.NONE);
        // the other one turns once a round, and lies by the chimney behind 2 of 4 hours
        WarmPlace up = C.bedOf("b2 0;s99 0 1 0;s99 0 0 0;r0,1;");
        up.getUp(0);
        C.due("steady(-1) with one UP", up.steady(-1), 2);
        C.due("steady(1) with one UP", up.steady(1), 2);
        WarmPlace nobody = C.bedOf("b2 0;r1,1,1;");
        C.due("steady(-1) without SLEEPERS", nobody.steady(-1), 1);
        C.due("steady(0) without SLEEPERS", nobody.steady(0), WarmPlace.UNKNOWN);
        C.due("steady(-2)", x.steady(-2), WarmPlace.UNKNOWN);
        C.due("steady(3)", x.steady(3), WarmPlace.UNKNOWN);
    }

    private static void beds(String text, int unlike, int set) {
        WarmPlace x = C.bedOf(text);
        C.due("twoBeds(0) of " + text, x.twoBeds(0), unlike);
        C.due("twoBeds(1) of " + text, x.twoBeds(1), set);
        for (int s = 0; s < x.told(2); s++) {
            x.getUp(s);
        }
        C.due("twoBeds(0), all UP, of " + text, x.twoBeds(0), unlike);
        C.due("twoBeds(1), all UP, of " + text, x.twoBeds(1), set);
    }

    private static void twoBeds() {
        beds("b2 0;", WarmPlace.NONE, WarmPlace.NONE);
        beds("b2 0;s9 7 1 1;", 7, 1);
        beds("b2 0;s9 0 1 1;s9 0 1 1;", 0, 1);
        beds("b3 0;s9 2 1 1;s9 2 1 1;s9 2 1 1;", 2, 1);
        beds("b3 0;s9 1 1 1;s9 2 1 1;s9 5 1 1;", 2, 3);
        beds("b4 0;s9 1 1 1;s9 9 1 1;s9 9 1 1;s9 1 1 1;", 0, 3);
        beds("b6 0;s9 1 1 1;s9 1 1 1;s9 1 1 1;s9 9 1 1;s9 1 1 1;s9 1 1 1;", 4, 55);
        WarmPlace x = C.bedOf("b2 0;");
        C.due("twoBeds(2)", x.twoBeds(2), WarmPlace.OUTSIDE);
        C.due("twoBeds(-1)", x.twoBeds(-1), WarmPlace.OUTSIDE);
    }

    private static void nobodyUp() {
        WarmPlace x = C.bedOf("b3 0;s9 7 1 1;s9 7 1 1;s9 7 1 1;");
        C.due("nobodyUp(1, 1)", x.nobodyUp(1, 1), 997002999);
        C.due("nobodyUp(1, 999)", x.nobodyUp(1, 999), 1);
        C.due("nobodyUp(2, 999)", x.nobodyUp(2, 999), 0);
        C.due("nobodyUp(50, 0)", x.nobodyUp(50, 0), 1000000000);
        C.due("nobodyUp(50, 1000)", x.nobodyUp(50, 1000), 0);
        // cut behind each one and hour: 0.95 to the sixtieth would be 46069798
        WarmPlace six = C.bedOf("b6 0;s9 1 1 1;s9 1 1 1;s9 1 1 1;s9 1 1 1;s9 1 1 1;s9 1 1 1;");
        C.due("nobodyUp(10, 50)", six.nobodyUp(10, 50), 46069791);
        x.getUp(1);
        C.due("nobodyUp(1, 500) of two", x.nobodyUp(1, 500), 250000000);
        C.due("nobodyUp(0, 0)", x.nobodyUp(0, 0), WarmPlace.OUTSIDE);
        C.due("nobodyUp(51, 0)", x.nobodyUp(51, 0), WarmPlace.OUTSIDE);
        C.due("nobodyUp(1, -1)", x.nobodyUp(1, -1), WarmPlace.OUTSIDE);
        C.due("nobodyUp(1, 1001)", x.nobodyUp(1, 1001), WarmPlace.OUTSIDE);
    }
}
