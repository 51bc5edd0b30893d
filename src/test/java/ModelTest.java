import java.util.Random;

/** Runs of calls by a fixed seed on the class and on PlainModel: all answers are alike. */
public final class ModelTest {
    private static final Check C = new Check();
    private static final int MOST_CALLS = 512;
    private static final int[] ODD = {Integer.MIN_VALUE, -1000000001, -2, 256, 1000, Integer.MAX_VALUE};

    private final Random random;
    private final WarmPlace x = new WarmPlace();
    private final PlainModel y = new PlainModel();
    private final int run;
    private int calls = 0;

    private ModelTest(int run) {
        this.run = run;
        random = new Random(run);
    }

    public static void main(String[] args) {
        int runs = args.length > 0 ? Integer.parseInt(args[0]) : 2500;
        for (int run = 0; run < runs; run++) {
            new ModelTest(run).play();
        }
        C.end("ModelTest");
    }

    private int upTo(int n) {
        return random.nextInt(n + 1);
    }

    /** A number about low .. high: mostly in it, at times beside it, seldom far off. */
    private int about(int low, int high) {
        int k = upTo(60);
        return k == 0 ? ODD[upTo(ODD.length - 1)] : k < 4 ? low - 1 : k < 7 ? high + 1 : low + upTo(high - low);
    }

    private void due(String call, int got, int want) {
        calls++;
        C.due("run " + run + ": " + call, got, want);
    }

    /** A text costs at most 202 calls and a look, a look 63: none comes behind the 512th. */
    private void play() {
        tell();
        if (upTo(3) == 0) {
            while (calls < MOST_CALLS - 202 - 63 - 64) {
                call();
            }
            tell();
        }
        while (calls < MOST_CALLS - 64) {
            call();
        }
    }

    private void tell() {
        StringBuilder text = goodText();
        if (upTo(2) == 0) {
            break1(text);
        }
        for (int i = 0; i < text.length(); i++) {
            due("feed", x.feed(text.charAt(i)), y.feed(text.charAt(i)));
        }
        due("bed() of '" + text + "'", x.bed(), y.bed());
        due("fault() of '" + text + "'", x.fault(), y.fault());
        lookAtAll();
    }

    private String blanks() {
        return " ".repeat(Math.max(0, upTo(8) - 6));
    }

    private StringBuilder goodText() {
        int places = 2 + upTo(4);
        int sleepers = upTo(5) == 0 ? upTo(places) : Math.max(1, places - upTo(1));
        StringBuilder t = new StringBuilder(blanks() + "b" + blanks() + places + " " + upTo(1) + blanks() + ";");
        boolean mild = upTo(2) > 0;
        for (int p = 0; p < places; p++) {
            if (upTo(2) > 0) {
                t.append(blanks()).append('h').append(p).append(' ').append(upTo(9)).append(';');
            }
        }
        boolean lawFirst = upTo(1) == 0;
        if (lawFirst) {
            law(t);
        }
        boolean alike = upTo(4) == 0;
        String last = null;
        for (int s = 0; s < sleepers; s++) {
            int w = mild ? 20 + upTo(79) : 1 + upTo(98);
            int k = mild ? upTo(w / 2) : upTo(w - 1);
            String clause = "s" + w + " " + upTo(mild ? 4 : 9) + " " + upTo(mild ? 9 : 20) + blanks() + " " + k + ";";
            last = alike && last != null ? last : clause;
            t.append(last);
        }
        if (!lawFirst && upTo(3) > 0) {
            law(t);
        }
        return t;
    }

    private void law(StringBuilder t) {
        t.append('r').append(upTo(3));
        for (int k = upTo(7); k > 0; k--) {
            t.append(blanks()).append(',').append(blanks()).append(upTo(3));
        }
        t.append(';');
    }

    /** One letter or some more are changed, put in, or taken away. */
    private void break1(StringBuilder t) {
        String letters = "bhsr;,0123456789  x-";
        for (int k = upTo(2); k >= 0 && t.length() > 0; k--) {
            int at = upTo(t.length() - 1);
            char c = letters.charAt(upTo(letters.length() - 1));
            switch (upTo(3)) {
                case 0: t.setCharAt(at, c); break;
                case 1: t.insert(at, c); break;
                case 2: t.deleteCharAt(at); break;
                default: t.setLength(upTo(5) == 0 ? at : t.length()); break;
            }
        }
    }

    private void lookAtAll() {
        for (int what = 0; what <= 11; what++) {
            due("told(" + what + ")", x.told(what), y.told(what));
        }
        for (int p = 0; p < 6; p++) {
            due("place(" + p + ", 0)", x.place(p, 0), y.place(p, 0));
            due("place(" + p + ", 1)", x.place(p, 1), y.place(p, 1));
        }
        for (int s = 0; s < 6; s++) {
            for (int what = 0; what < 5; what++) {
                due("sleeper(" + s + ", " + what + ")", x.sleeper(s, what), y.sleeper(s, what));
            }
        }
        for (int i = 0; i < 9; i++) {
            due("rule(" + i + ")", x.rule(i), y.rule(i));
        }
    }

    private void call() {
        int kind = upTo(27);
        if (kind < 12) {
            act(kind);
            if (upTo(2) == 0) {
                lookAtAll();
            }
        } else {
            ask(kind);
        }
    }

    private void act(int kind) {
        int a = 0;
        int b = 0;
        switch (kind) {
            case 0: a = about(0, 3); due("hour(" + a + ")", x.hour(a), y.hour(a)); break;
            case 1: a = about(1, upTo(3) == 0 ? 99 : 4); due("night(" + a + ")", x.night(a), y.night(a)); break;
            case 2: a = about(0, 5); due("getUp(" + a + ")", x.getUp(a), y.getUp(a)); break;
            case 3: a = about(0, 5); due("comeIn(" + a + ")", x.comeIn(a), y.comeIn(a)); break;
            case 4: a = about(1, upTo(3) == 0 ? 99 : 4); due("drift(" + a + ")", x.drift(a), y.drift(a)); break;
            case 5: a = about(1, upTo(3) == 0 ? 30 : 3); due("undo(" + a + ")", x.undo(a), y.undo(a)); break;
            case 6: a = about(0, 5); b = about(0, 5); due("morning(" + a + ", " + b + ")", x.morning(a, b), y.morning(a, b)); break;
            case 7: a = about(0, 3); due("write(" + a + ")", x.write(a), y.write(a)); break;
            case 8: if (upTo(2) == 0) { due("tear()", x.tear(), y.tear()); } break;
            case 9: a = upTo(1) == 0 ? about(0, 99999) : Integer.MAX_VALUE - upTo(99); due("seed(" + a + ")", x.seed(a), y.seed(a)); break;
            case 10: a = about(0, 1); due("keep(" + a + ")", x.keep(a), y.keep(a)); break;
            default: a = about(0, 1); due("goBack(" + a + ")", x.goBack(a), y.goBack(a)); break;
        }
    }

    private void ask(int kind) {
        int a = 0;
        int b = 0;
        switch (kind) {
            case 12: case 13: a = about(0, 1); due("firstAwake(" + a + ")", x.firstAwake(a), y.firstAwake(a)); break;
            case 14: case 15: a = about(1, 5); b = about(-1, 5); due("turnsFor(" + a + ", " + b + ")", x.turnsFor(a, b), y.turnsFor(a, b)); break;
            case 16: case 17: a = about(1, 30); b = about(-1, 4); due("rhyme(" + a + ", " + b + ")", x.rhyme(a, b), y.rhyme(a, b)); break;
            case 18: a = about(1, 9); b = about(-1, 6); due("laid(" + a + ", " + b + ")", x.laid(a, b), y.laid(a, b)); break;
            case 19: a = about(-1, 3); due("change(" + a + ")", x.change(a), y.change(a)); break;
            case 20: case 21: a = about(-1, 5); due("steady(" + a + ")", x.steady(a), y.steady(a)); break;
            case 22: a = about(0, 1); due("twoBeds(" + a + ")", x.twoBeds(a), y.twoBeds(a)); break;
            case 23: a = about(1, 50); b = about(0, upTo(1) == 0 ? 1000 : 20); due("nobodyUp(" + a + ", " + b + ")", x.nobodyUp(a, b), y.nobodyUp(a, b)); break;
            case 24: a = about(1, 5); b = about(-1, 5); due("counted(" + a + ", " + b + ")", x.counted(a, b), y.counted(a, b)); break;
            case 25: a = about(1, 5); due("sure(" + a + ")", x.sure(a), y.sure(a)); break;
            case 26: a = about(0, 1); due("judge(" + a + ")", x.judge(a), y.judge(a)); break;
            default: a = about(0, 11); due("told(" + a + ")", x.told(a), y.told(a)); break;
        }
    }
}
