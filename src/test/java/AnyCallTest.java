import java.lang.management.ManagementFactory;
import java.util.Random;

/** Any call with any numbers in any order, beyond the 512th, too: none throws, none makes an object. */
public final class AnyCallTest {
    private static final Check C = new Check();
    private static final int KINDS = 30;
    private static final int BED = 1;
    private static final int TEAR = 26;
    private static final int CALLS = 6000;
    private static final int ROUND = 1500;
    private static final int[] FAR = {Integer.MIN_VALUE, Integer.MIN_VALUE + 1, -1000000004, -100, 255, 256, 999, 1001, 65536,
        1 << 30, Integer.MAX_VALUE - 1, Integer.MAX_VALUE};
    private static final String LETTERS = "bhsr;,0123456789 ";

    public static void main(String[] args) {
        for (int run = 0; run < 400; run++) {
            nothingThrows(run);
        }
        noObjects();
        C.end("AnyCallTest");
    }

    private static int anyNumber(Random random) {
        int k = random.nextInt(10);
        return k == 0 ? FAR[random.nextInt(FAR.length)] : k == 1 ? random.nextInt() : k < 4 ? random.nextInt(100) : random.nextInt(10) - 2;
    }

    /** bed() and tear() come seldom, so that the rows are full at times; in some runs every other call is a letter. */
    private static int anyKind(Random random, int run, int k) {
        if (k % ROUND == ROUND - 1) {
            return BED;
        }
        int kind = run % 5 == 0 && random.nextBoolean() ? 0 : random.nextInt(KINDS);
        return kind == BED || kind == TEAR && k % 100 != 0 ? 0 : kind;
    }

    /** Mild ones, so that what is tried goes on for long, with as many sleepers as places at times. */
    private static String anyBed(Random random) {
        int places = 2 + random.nextInt(5);
        StringBuilder text = new StringBuilder("b" + places + " " + random.nextInt(2) + ";h0 9;");
        for (int s = random.nextInt(2); s < places; s++) {
            text.append("s").append(60 + random.nextInt(40)).append(' ').append(random.nextInt(10)).append(' ')
                .append(random.nextInt(15)).append(' ').append(random.nextInt(30)).append(';');
        }
        return text.append(random.nextInt(3) == 0 ? "" : "r3,1,2,0,1,1,2,3;").toString();
    }

    private static void nothingThrows(int run) {
        Random random = new Random(run);
        WarmPlace x = new WarmPlace();
        for (int k = 0; k < CALLS; k++) {
            if (k % ROUND == 0 && run % 4 != 0) {
                Check.tell(x, anyBed(random));
                x.bed();
            }
            int kind = anyKind(random, run, k);
            int a = kind == 0 && random.nextInt(4) > 0 ? LETTERS.charAt(random.nextInt(LETTERS.length())) : anyNumber(random);
            int b = anyNumber(random);
            try {
                call(x, kind, a, b);
            } catch (RuntimeException | StackOverflowError thrown) {
                C.due("run " + run + ", call " + k + " of kind " + kind + " (" + a + ", " + b + ") threw " + thrown, 1, 0);
                return;
            }
        }
    }

    /** Once without being counted, so that what the machine itself makes at a first call is not counted either. */
    private static void noObjects() {
        callAll();
        var threads = ManagementFactory.getThreadMXBean();
        if (!(threads instanceof com.sun.management.ThreadMXBean counting) || !counting.isThreadAllocatedMemorySupported()) {
            return;
        }
        counting.setThreadAllocatedMemoryEnabled(true);
        WarmPlace x = rich();
        long id = Thread.currentThread().getId();
        counting.getThreadAllocatedBytes(id);
        long before = counting.getThreadAllocatedBytes(id);
        callAllOf(x);
        long made = counting.getThreadAllocatedBytes(id) - before;
        C.due("bytes that all calls make", made, 0);
    }

    private static WarmPlace rich() {
        WarmPlace x = Check.rich();
        x.comeIn(1);
        return x;
    }

    private static void callAll() {
        callAllOf(rich());
    }

    private static void callAllOf(WarmPlace x) {
        for (int a = -1; a < 6; a++) {
            for (int kind = KINDS - 1; kind >= 0; kind--) {
                call(x, kind, a, a);
            }
        }
    }

    private static int call(WarmPlace x, int kind, int a, int b) {
        switch (kind) {
            case 0: return x.feed(a);
            case 1: return x.bed();
            case 2: return x.fault();
            case 3: return x.told(a);
            case 4: return x.place(a, b);
            case 5: return x.sleeper(a, b);
            case 6: return x.rule(a);
            case 7: return x.hour(a);
            case 8: return x.night(a);
            case 9: return x.getUp(a);
            case 10: return x.comeIn(a);
            case 11: return x.drift(a);
            case 12: return x.undo(a);
            case 13: return x.firstAwake(a);
            case 14: return x.turnsFor(a, b);
            case 15: return x.rhyme(a, b);
            case 16: return x.laid(a, b);
            case 17: return x.change(a);
            case 18: return x.steady(a);
            case 19: return x.twoBeds(a);
            case 20: return x.nobodyUp(a, b);
            case 21: return x.morning(a, b);
            case 22: return x.counted(a, b);
            case 23: return x.sure(a);
            case 24: return x.write(a);
            case 25: return x.judge(a);
            case 26: return x.tear();
            case 27: return x.seed(a);
            case 28: return x.keep(a);
            default: return x.goBack(a);
        }
    }
}
