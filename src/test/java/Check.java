/** What the tests share: a call with the answer that is due, and beds told by a text. */
final class Check {
    private int wrong = 0;

    void due(String call, long got, long want) {
        if (got != want) {
            wrong++;
            System.out.println(call + " answered " + got + ", due is " + want);
        }
    }

    /** Ends the test: exit code 1 if an answer was not as due. */
    void end(String name) {
        System.out.println(name + ": " + (wrong == 0 ? "all answers are as due" : wrong + " answers are not as due"));
        if (wrong != 0) {
            System.exit(1);
        }
    }

    static void tell(WarmPlace x, String text) {
        for (int i = 0; i < text.length(); i++) {
            x.feed(text.charAt(i));
        }
    }

    /** A new object with the bed that the text tells. */
    WarmPlace bedOf(String text) {
        WarmPlace x = new WarmPlace();
        tell(x, text);
        if (x.bed() < 0) {
            due("bed() of " + text, x.fault(), WarmPlace.NONE);
        }
        return x;
    }

    /** Who lies in the PLACES and how warm the SLEEPERS are, as a text: "0 - 1 | 30 20". */
    static String look(WarmPlace x) {
        StringBuilder out = new StringBuilder();
        for (int p = 0; p < x.told(0); p++) {
            int s = x.place(p, 1);
            out.append(s == WarmPlace.NONE ? "-" : "" + s).append(' ');
        }
        out.append('|');
        for (int s = 0; s < x.told(2); s++) {
            out.append(' ').append(x.sleeper(s, 0));
        }
        return out.toString();
    }

    void looks(String where, WarmPlace x, String want) {
        String got = look(x);
        if (!got.equals(want)) {
            wrong++;
            System.out.println(where + " looks " + got + ", due is " + want);
        }
    }

    /** All that can be asked without changing anything, as a text: to see that what is refused changes nothing. */
    static String all(WarmPlace x) {
        StringBuilder out = new StringBuilder(look(x));
        for (int what = 0; what <= 11; what++) {
            out.append(" t").append(x.told(what));
        }
        out.append(" f").append(x.fault());
        for (int i = 0; i < 8; i++) {
            out.append(" r").append(x.rule(i));
        }
        for (int m = 1; m <= 3; m++) {
            out.append(" c").append(x.counted(m, -1)).append(" s").append(x.sure(m));
        }
        out.append(" j").append(x.judge(0)).append(' ').append(x.judge(1));
        int seed = x.seed(0);
        x.seed(seed);
        return out.append(" seed ").append(seed).toString();
    }

    /** A call that is refused: the answer is due, and all that can be asked is as it was. */
    void refused(String call, String before, long got, long want, WarmPlace x) {
        due(call, got, want);
        String after = all(x);
        if (!after.equals(before)) {
            wrong++;
            System.out.println(call + " was refused, but changed " + before + " to " + after);
        }
    }
}
