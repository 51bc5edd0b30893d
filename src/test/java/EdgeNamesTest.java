import java.lang.reflect.Method;
import java.lang.reflect.Modifier;

/** Each promise, 1 to 31, has boundary tests that bear its number, in the class that has its section. */
public final class EdgeNamesTest {
    private static final Check C = new Check();

    public static void main(String[] args) {
        numbers(BedEdgeTest.class, 1, 8);
        numbers(HoursEdgeTest.class, 9, 14);
        numbers(TriedEdgeTest.class, 15, 22);
        numbers(SeenEdgeTest.class, 23, 28);
        numbers(ImagesEdgeTest.class, 29, 31);
        C.end("EdgeNamesTest");
    }

    private static void numbers(Class<?> tests, int first, int last) {
        int[] count = new int[100];
        for (Method m : Check.numbered(tests)) {
            int promise = Integer.parseInt(m.getName().substring(1, 3));
            count[promise]++;
            C.due(m.getName() + " is in " + tests.getName(), promise >= first && promise <= last ? 1 : 0, 1);
            C.due(m.getName() + " can be run", Modifier.isStatic(m.getModifiers()) && m.getParameterCount() == 0 ? 1 : 0, 1);
        }
        for (int promise = first; promise <= last; promise++) {
            C.due("promise " + promise + " has boundary tests", count[promise] > 1 ? 1 : 0, 1);
        }
    }
}
