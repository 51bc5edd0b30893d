/** Promises 29 to 31: THE SEED and IMAGES. */
public final class ImagesTest {
    private static final Check C = new Check();

    public static void main(String[] args) {
        seed();
        keepAndGoBack();
        twoImages();
        nothingToUndo();
        withoutPlaces();
        C.end("ImagesTest");
    }

    private static void seed() {
        WarmPlace x = new WarmPlace();
        C.due("seed(2147483647)", x.seed(2147483647), 0);
        C.due("seed(-1)", x.seed(-1), WarmPlace.OUTSIDE);
        C.due("seed(least)", x.seed(Integer.MIN_VALUE), WarmPlace.OUTSIDE);
        C.due("seed(7)", x.seed(7), 2147483647);
        C.due("seed(0)", x.seed(0), 7);
    }

    private static void keepAndGoBack() {
        WarmPlace x = C.bedOf("b4 1;h0 5;s50 1 2 1;s51 3 4 1;s55 2 9 1;r1,2,3;");
        x.night(2);
        x.getUp(1);
        x.seed(99);
        String kept = Check.look(x);
        C.due("keep(0)", x.keep(0), 1);
        x.drift(7);
        x.comeIn(1);
        x.getUp(0);
        x.morning(0, 2);
        x.write(1);
        C.due("goBack(0)", x.goBack(0), 1);
        C.looks("goBack(0)", x, kept);
        C.due("HOURS", x.told(5), 2);
        C.due("who is UP", x.told(6), 2);
        C.due("THE SEED", x.seed(1), 99);
        C.due("MORNING is no part of it", x.told(9), 1);
        C.due("THE BOOK is no part of it", x.told(10), 1);
        x.night(9);
        C.due("goBack(0) again", x.goBack(0), 1);
        C.looks("goBack(0) again", x, kept);
        C.due("THE SEED again", x.seed(1), 99);
        x.tear();
        C.due("goBack(0) behind tear()", x.goBack(0), 1);
        C.due("MORNING stays torn", x.told(9), 0);
    }

    private static void twoImages() {
        WarmPlace x = C.bedOf("b4 1;h0 5;s50 1 2 1;s51 3 4 1;s55 2 9 1;r1,2,3;");
        String first = Check.look(x);
        x.keep(0);
        x.hour(1);
        x.seed(4);
        String second = Check.look(x);
        x.keep(1);
        x.night(5);
        x.goBack(0);
        C.looks("IMAGE 0", x, first);
        C.due("SEED 0", x.seed(8), 0);
        x.goBack(1);
        C.looks("IMAGE 1", x, second);
        C.due("SEED 1", x.seed(8), 4);
        C.due("HOURS", x.told(5), 1);
        x.keep(0);
        x.night(9);
        x.goBack(0);
        C.looks("IMAGE 0 anew", x, second);
        C.due("SEED 0 anew", x.seed(8), 8);
    }

    private static void nothingToUndo() {
        WarmPlace x = C.bedOf("b4 1;h0 5;s50 1 2 1;s51 3 4 1;s55 2 9 1;r1,2,3;");
        x.night(3);
        x.keep(0);
        C.due("told(11) behind keep", x.told(11), 0);
        C.due("undo(1) behind keep", x.undo(1), WarmPlace.NOT);
        x.night(3);
        C.due("told(11)", x.told(11), 3);
        x.goBack(0);
        C.due("told(11) behind goBack", x.told(11), 0);
        C.due("undo(1) behind goBack", x.undo(1), WarmPlace.NOT);
        x.hour(1);
        C.due("undo(1)", x.undo(1), 3);
    }

    private static void withoutPlaces() {
        WarmPlace x = new WarmPlace();
        x.seed(5);
        C.due("keep(1) without PLACES", x.keep(1), 1);
        x.seed(6);
        C.due("goBack(1) without PLACES", x.goBack(1), 1);
        C.due("THE SEED", x.seed(0), 5);
        C.due("no PLACES", x.told(0), 0);
    }
}
