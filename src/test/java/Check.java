import java.lang.reflect.Method;
import java.util.ArrayList;
import java.util.Comparator;
import java.util.List;

/** What the tests share: a call with the answer that is due, beds told by a text, and what is refused. */
final class Check {
    /** A way to make an object; a call on one. */
    interface Made {
        WarmPlace make();
    }

    interface Call {
        int on(WarmPlace x);
    }

    private int wrong = 0;
    private String test = "";

    void due(String call, long got, long want) {
        if (got != want) {
            wrong++;
            System.out.println(test + call + " answered " + got + ", due is " + want);
        }
    }

    private void same(String call, String got, String want) {
        if (!got.equals(want)) {
            wrong++;
            System.out.println(test + call + ": " + got + ", due is " + want);
        }
    }

    /** Ends the test: exit code 1 if an answer was not as due. */
    void end(String name) {
        System.out.println(name + ": " + (wrong == 0 ? "all answers are as due" : wrong + " answers are not as due"));
        if (wrong != 0) {
            System.exit(1);
        }
    }

    /** The tests of a class that bear a promise's number: p03_.. is one of promise 3. */
    static List<Method> numbered(Class<?> tests) {
        List<Method> found = new ArrayList<>();
        for (Method m : tests.getDeclaredMethods()) {
            if (m.getName().matches("p\\d\\d_\\w+")) {
                found.add(m);
            }
        }
        found.sort(Comparator.comparing(Method::getName));
        return found;
    }

    /** Runs all of them, so that none is forgotten; what is wrong is told with the test's name. */
    void runNumbered(Class<?> tests) throws ReflectiveOperationException {
        for (Method m : numbered(tests)) {
            test = m.getName() + ": ";
            m.setAccessible(true);
            m.invoke(null);
        }
        test = "";
    }

    static void tell(WarmPlace x, String text) {
        for (int i = 0; i < text.length(); i++) {
            x.feed(text.charAt(i));
        }
    }

    /** A new object with the bed that the text tells. */
    WarmPlace bedOf(String text) {
        WarmPlace x = new WarmPlace();
        tell(x, text);
        if (x.bed() < 0) {
            due("bed() of " + text, x.fault(), WarmPlace.NONE);
        }
        return x;
    }

    /** A text that has no FAULT. */
    WarmPlace good(String text, int sleepers) {
        WarmPlace x = new WarmPlace();
        tell(x, text);
        due("bed() of '" + text + "'", x.bed(), sleepers);
        due("fault() of '" + text + "'", x.fault(), WarmPlace.NONE);
        due("told(4) behind '" + text + "'", x.told(4), 0);
        return x;
    }

    /** A text with a FAULT, its number and its letter. */
    void bad(String text, int number, int letter) {
        WarmPlace x = new WarmPlace();
        tell(x, text);
        due("bed() of '" + text + "'", x.bed(), -10 - number);
        due("fault() of '" + text + "'", x.fault(), letter);
        due("told(4) behind '" + text + "'", x.told(4), 0);
        due("told(0) behind '" + text + "'", x.told(0), 0);
    }

    /** Who lies in the PLACES, as a text: "0 - 1". */
    static String lie(WarmPlace x) {
        StringBuilder out = new StringBuilder();
        for (int p = 0; p < x.told(0); p++) {
            int s = x.place(p, 1);
            out.append(p == 0 ? "" : " ").append(s == WarmPlace.NONE ? "-" : "" + s);
        }
        return out.toString();
    }

    /** Who lies in the PLACES and how warm the SLEEPERS are, as a text: "0 - 1 | 30 20". */
    static String look(WarmPlace x) {
        StringBuilder out = new StringBuilder(lie(x)).append(" |");
        for (int s = 0; s < x.told(2); s++) {
            out.append(' ').append(x.sleeper(s, 0));
        }
        return out.toString();
    }

    void looks(String where, WarmPlace x, String want) {
        same(where + " looks", look(x), want);
    }

    void lies(String where, WarmPlace x, String want) {
        same(where + " lies", lie(x), want);
    }

    /** All that told, place, sleeper, rule, fault answer, as a text. */
    static String facts(WarmPlace x) {
        StringBuilder out = new StringBuilder("told");
        for (int what = 0; what <= 11; what++) {
            out.append(' ').append(x.told(what));
        }
        for (int p = 0; p < x.told(0); p++) {
            out.append(", place ").append(x.place(p, 0)).append(' ').append(x.place(p, 1));
        }
        for (int s = 0; s < x.told(2); s++) {
            out.append(", sleeper");
            for (int what = 0; what <= 4; what++) {
                out.append(' ').append(x.sleeper(s, what));
            }
        }
        out.append(", rule");
        for (int i = 0; i < x.told(3); i++) {
            out.append(' ').append(x.rule(i));
        }
        return out.append(", fault ").append(x.fault()).toString();
    }

    /** Calls that bring to light what facts cannot see: MORNING, THE BOOK, THE SEED, what can be undone, IMAGES, THE TEXT. */
    static String later(WarmPlace x) {
        StringBuilder out = new StringBuilder();
        out.append(x.counted(2, -1)).append(' ').append(x.sure(2)).append(' ').append(x.judge(0)).append(' ').append(x.judge(1));
        int seed = x.seed(0);
        x.seed(seed);
        out.append(", seed ").append(seed).append(' ').append(x.drift(2)).append(' ').append(x.undo(2));
        for (int k = 0; k < 4; k++) {
            out.append(", undo ").append(x.undo(1)).append(' ').append(look(x));
        }
        for (int i = 0; i < 2; i++) {
            out.append(", image ").append(x.goBack(i)).append(' ').append(look(x)).append(' ').append(x.told(5));
        }
        out.append(", torn ").append(x.tear());
        tell(x, "7;");
        return out.append(", text ").append(x.bed()).append(' ').append(x.fault()).append(' ').append(facts(x)).toString();
    }

    /** Something of everything: one UP, hours to undo, MORNING, THE BOOK, IMAGE 0, a FAULT at letter 5, a text begun. */
    static WarmPlace rich() {
        WarmPlace x = new WarmPlace();
        tell(x, "b4 1;h0 5;h2 3;s60 1 2 5;s61 3 4 5;s55 2 3 6;r1,2,3;");
        x.bed();
        x.seed(77);
        x.night(2);
        x.keep(0);
        x.night(3);
        x.getUp(1);
        x.morning(0, 1);
        x.write(2);
        x.write(1);
        tell(x, "b2 0;x");
        x.bed();
        tell(x, "b3 1;h2 ");
        return x;
    }

    /** Nothing goes in any more: six of MORNING, twenty WORDS of THE BOOK, 200 letters, thirty that can be undone. */
    static WarmPlace full() {
        WarmPlace x = new WarmPlace();
        tell(x, "b2 1;h0 5;s60 1 2 5;s61 3 4 5;");
        x.bed();
        x.night(40);
        for (int k = 0; k < 6; k++) {
            x.morning(k % 2, k % 2);
        }
        for (int k = 0; k < 20; k++) {
            x.write(k % 4);
        }
        tell(x, " ".repeat(195) + "b4 1;");
        return x;
    }

    /** PLACES and SLEEPERS, but all of them are UP. */
    static WarmPlace nobody() {
        WarmPlace x = new WarmPlace();
        tell(x, "b3 0;h0 5;s60 1 2 5;s61 3 4 5;r1,2;");
        x.bed();
        x.hour(1);
        x.getUp(0);
        x.getUp(1);
        x.write(1);
        return x;
    }

    /**
     * A call that is refused: the answer is due, all facts are as before it, and all later calls answer as on
     * a twin on which it was not called. New objects each time, so that none comes near its 512th call.
     */
    void refused(Made made, String call, Call refused, int want) {
        WarmPlace x = made.make();
        String before = facts(x);
        due(call, refused.on(x), want);
        same(call + " changed something", facts(x), before);
        same(call + " changed what comes later", later(x), later(made.make()));
    }

    /** A call that only asks: whatever it answers, nothing changes by it. */
    void changesNothing(Made made, String call, Call asked) {
        refused(made, call, asked, asked.on(made.make()));
    }
}
