/** Promises 23 to 28: what was seen, THE BOOK. */
public final class SeenTest {
    private static final Check C = new Check();

    public static void main(String[] args) {
        morning();
        counted();
        sure();
        countedFromNow();
        book();
        judged();
        tear();
        C.end("SeenTest");
    }

    private static void morning() {
        WarmPlace x = C.bedOf("b3 0;s50 0 0 1;s51 0 0 1;");
        C.due("morning(2, 0)", x.morning(2, 0), WarmPlace.UNKNOWN);
        C.due("morning(-1, 0)", x.morning(-1, 0), WarmPlace.UNKNOWN);
        C.due("morning(0, 3)", x.morning(0, 3), WarmPlace.UNKNOWN);
        C.due("morning(0, -1)", x.morning(0, -1), WarmPlace.UNKNOWN);
        C.due("told(9)", x.told(9), 0);
        C.due("morning(0, 0)", x.morning(0, 0), 1);
        C.due("morning(0, 0) again", x.morning(0, 0), 2);
        C.due("morning(0, 1): told otherwise", x.morning(0, 1), 3);
        C.due("morning(1, 2)", x.morning(1, 2), 4);
        C.due("morning(1, 0)", x.morning(1, 0), 5);
        x.getUp(1);
        C.due("morning(1, 0) who is UP", x.morning(1, 0), 6);
        C.due("morning(0, 0), the seventh", x.morning(0, 0), WarmPlace.FULL);
        C.due("morning(2, 0), the seventh", x.morning(2, 0), WarmPlace.UNKNOWN);
        C.due("told(9)", x.told(9), 6);
    }

    private static void rows(WarmPlace x, int m, int count, int... first) {
        C.due("counted(" + m + ", -1)", x.counted(m, -1), count);
        for (int i = 0; i < first.length; i++) {
            C.due("counted(" + m + ", " + i + ")", x.counted(m, i), first[i]);
        }
        C.due("counted(" + m + ", " + first.length + ")", x.counted(m, first.length), WarmPlace.NONE);
        C.due("counted(" + m + ", -2)", x.counted(m, -2), WarmPlace.NONE);
    }

    private static void counted() {
        WarmPlace x = C.bedOf("b4 0;s50 0 0 1;s51 0 0 1;s52 0 0 1;s53 0 0 1;");
        rows(x, 1, 4, 0);
        rows(x, 5, 1024, 0, 0, 0, 0, 0);
        x.morning(1, 1);
        // PLACE 1 stays by 0 and 3
        rows(x, 1, 2, 0);
        rows(x, 2, 6, 0, 0);
        x.morning(0, 3);
        rows(x, 1, 1, 3);
        rows(x, 2, 2, 0, 3);
        x.morning(2, 2);
        // 3 once or three times with 0; or once with 1 and 2 that undo each other
        rows(x, 3, 8, 0, 0, 3);
        x.morning(2, 1);
        rows(x, 3, 0);
        WarmPlace y = C.bedOf("b3 0;s50 0 0 1;s51 0 0 1;");
        y.morning(1, 1);
        y.getUp(0);
        rows(y, 1, 1, 1);
        y.getUp(1);
        rows(y, 1, 0);
        C.due("sure(1)", y.sure(1), 0);
        C.due("counted(0, -1)", x.counted(0, -1), WarmPlace.OUTSIDE);
        C.due("counted(6, -1)", x.counted(6, -1), WarmPlace.OUTSIDE);
        WarmPlace empty = C.bedOf("b2 0;");
        rows(empty, 2, 16, 0, 0);
    }

    private static void sure() {
        WarmPlace x = C.bedOf("b6 1;s50 0 0 1;s51 0 0 1;s52 0 0 1;s53 0 0 1;");
        C.due("sure(3) of nothing told", x.sure(3), 0);
        x.morning(1, 3);
        C.due("sure(2)", x.sure(2), 2);
        // 1 1 with 0 or with 3, which leaves the PLACES between the ends
        C.due("sure(3)", x.sure(3), 2);
        x.morning(0, 5);
        C.due("counted(2, -1)", x.counted(2, -1), 0);
        C.due("sure(2) of none", x.sure(2), 0);
        WarmPlace y = C.bedOf("b4 0;s50 0 0 1;s51 0 0 1;s52 0 0 1;s53 0 0 1;");
        y.morning(0, 1);
        y.morning(3, 2);
        C.due("sure(1) of none", y.sure(1), 0);
        y.tear();
        y.morning(0, 3);
        y.morning(1, 1);
        C.due("sure(1): 3", y.sure(1), 8);
        C.due("sure(2): 3 and 0", y.sure(2), 9);
        C.due("sure(0)", y.sure(0), WarmPlace.OUTSIDE);
        C.due("sure(6)", y.sure(6), WarmPlace.OUTSIDE);
    }

    private static void countedFromNow() {
        WarmPlace x = C.bedOf("b4 0;s50 0 0 1;s51 0 0 1;");
        x.morning(0, 1);
        rows(x, 1, 1, 1);
        x.hour(1);
        C.due("MORNING stays by hours", x.told(9), 1);
        rows(x, 1, 2, 0);
        x.undo(1);
        rows(x, 1, 1, 1);
    }

    private static void book() {
        WarmPlace x = new WarmPlace();
        C.due("write(-1)", x.write(-1), WarmPlace.UNKNOWN);
        C.due("write(4)", x.write(4), WarmPlace.UNKNOWN);
        for (int k = 1; k <= 20; k++) {
            C.due("write(" + k % 4 + ")", x.write(k % 4), k);
        }
        C.due("write(0), the 21st", x.write(0), WarmPlace.FULL);
        C.due("write(4), the 21st", x.write(4), WarmPlace.UNKNOWN);
        C.due("told(10)", x.told(10), 20);
    }

    private static void judged() {
        WarmPlace x = C.bedOf("b2 0;h0 9;s10 0 4 5;s10 0 4 5;r1;");
        C.due("judge(0) of no BOOK", x.judge(0), WarmPlace.NONE);
        C.due("judge(1) of no BOOK", x.judge(1), 105);
        x.write(0);
        C.due("judge(0) of 0", x.judge(0), WarmPlace.NONE);
        C.due("judge(1) of 0", x.judge(1), 101);
        x.write(0);
        C.due("judge(0) of 0 0", x.judge(0), 1);
        C.due("judge(1) of 0 0", x.judge(1), 97);
        x.write(1);
        // 10 6 2 7 and 10 15 20 16: warm again behind all of it, but WRONG before
        C.due("judge(0) of 0 0 1", x.judge(0), 1);
        C.due("judge(1) of 0 0 1", x.judge(1), 102);
        // THE BOOK is said from now on, whatever HOUR it is
        x.hour(1);
        C.looks("hour(1)", x, "1 0 | 6 15");
        C.due("judge(0) an hour on", x.judge(0), 0);
        C.due("BOOK stays by hours", x.told(10), 3);
        C.due("judge(2)", x.judge(2), WarmPlace.OUTSIDE);
        C.due("judge(-1)", x.judge(-1), WarmPlace.OUTSIDE);
        x.getUp(0);
        // alone, AWAKE or not, is the other one
        C.due("judge(0) of one", x.judge(0), WarmPlace.NONE);
        C.due("judge(1) of one", x.judge(1), 116);
        x.getUp(1);
        C.due("judge(0) of nobody", x.judge(0), WarmPlace.NOT);
        C.due("judge(2) of nobody", x.judge(2), WarmPlace.OUTSIDE);
        WarmPlace y = C.bedOf("b2 0;s9 0 9 5;");
        y.write(0);
        C.due("judge(0): behind the first hour", y.judge(0), 0);
        y.hour(0);
        y.tear();
        C.due("judge(0): AWAKE now, no BOOK", y.judge(0), WarmPlace.NONE);
    }

    private static void tear() {
        WarmPlace x = C.bedOf("b2 0;h0 9;s10 0 4 5;s10 0 4 5;");
        C.due("tear() of nothing", x.tear(), 0);
        x.morning(0, 0);
        x.morning(0, 0);
        x.write(1);
        x.write(2);
        x.write(3);
        C.due("tear()", x.tear(), 5);
        C.due("told(9)", x.told(9), 0);
        C.due("told(10)", x.told(10), 0);
        C.due("tear() again", x.tear(), 0);
        C.due("write(2)", x.write(2), 1);
        C.due("morning(1, 1)", x.morning(1, 1), 1);
        C.due("tear()", x.tear(), 2);
    }
}
